section
-- ===== PART A: goes FIRST, ahead of the names: the tables' words, and 'selects' of the private methods out of them =====
/-- a private method of a class that the tables say can be made, by its rows of tables_1 -/
def lw_okq (q : MethodName × Nat) : Prop := (q.1.cls ≠ "java/lang/invoke/MethodHandle" ∧ q.1.cls ≠ "java/lang/invoke/VarHandle") ∧ Cond.instantiable q.1.cls q.2 ∈ tables_1 ∧ Cond.privateMethod q.1 ∈ tables_1 ∧ Cond.instanceMethod q.1 ∈ tables_1
theorem lw_p0 : lw_okq (⟨"TrunkDuel$Reader", "writeByte", "(I)V"⟩, 14) := ⟨⟨by decide +kernel, by decide +kernel⟩, List.mem_of_getElem? (i := 38) (by decide +kernel), List.mem_of_getElem? (i := 398) (by decide +kernel), List.mem_of_getElem? (i := 399) (by decide +kernel)⟩
theorem lw_p1 : lw_okq (⟨"TrunkDuel$Reader", "nextToken", "()V"⟩, 14) := ⟨⟨by decide +kernel, by decide +kernel⟩, List.mem_of_getElem? (i := 38) (by decide +kernel), List.mem_of_getElem? (i := 406) (by decide +kernel), List.mem_of_getElem? (i := 407) (by decide +kernel)⟩
theorem lw_p2 : lw_okq (⟨"TrunkDuel$Reader", "endOfRun", "(II)I"⟩, 14) := ⟨⟨by decide +kernel, by decide +kernel⟩, List.mem_of_getElem? (i := 38) (by decide +kernel), List.mem_of_getElem? (i := 410) (by decide +kernel), List.mem_of_getElem? (i := 411) (by decide +kernel)⟩
theorem lw_p3 : lw_okq (⟨"TrunkDuel$Reader", "byteAt", "(I)I"⟩, 14) := ⟨⟨by decide +kernel, by decide +kernel⟩, List.mem_of_getElem? (i := 38) (by decide +kernel), List.mem_of_getElem? (i := 414) (by decide +kernel), List.mem_of_getElem? (i := 415) (by decide +kernel)⟩
theorem lw_p4 : lw_okq (⟨"TrunkDuel$Reader", "valueOfToken", "()I"⟩, 14) := ⟨⟨by decide +kernel, by decide +kernel⟩, List.mem_of_getElem? (i := 38) (by decide +kernel), List.mem_of_getElem? (i := 418) (by decide +kernel), List.mem_of_getElem? (i := 419) (by decide +kernel)⟩
theorem lw_p5 : lw_okq (⟨"TrunkDuel$Reader", "readSize", "()Z"⟩, 14) := ⟨⟨by decide +kernel, by decide +kernel⟩, List.mem_of_getElem? (i := 38) (by decide +kernel), List.mem_of_getElem? (i := 429) (by decide +kernel), List.mem_of_getElem? (i := 430) (by decide +kernel)⟩
theorem lw_p6 : lw_okq (⟨"TrunkDuel$Reader", "wordIs", "(Ljava/lang/String;)Z"⟩, 14) := ⟨⟨by decide +kernel, by decide +kernel⟩, List.mem_of_getElem? (i := 38) (by decide +kernel), List.mem_of_getElem? (i := 434) (by decide +kernel), List.mem_of_getElem? (i := 435) (by decide +kernel)⟩
theorem lw_p7 : lw_okq (⟨"TrunkDuel$Reader", "fail", "(I)Z"⟩, 14) := ⟨⟨by decide +kernel, by decide +kernel⟩, List.mem_of_getElem? (i := 38) (by decide +kernel), List.mem_of_getElem? (i := 438) (by decide +kernel), List.mem_of_getElem? (i := 439) (by decide +kernel)⟩
theorem lw_p8 : lw_okq (⟨"TrunkDuel$Reader", "expectNumber", "(II)I"⟩, 14) := ⟨⟨by decide +kernel, by decide +kernel⟩, List.mem_of_getElem? (i := 38) (by decide +kernel), List.mem_of_getElem? (i := 442) (by decide +kernel), List.mem_of_getElem? (i := 443) (by decide +kernel)⟩
theorem lw_p9 : lw_okq (⟨"TrunkDuel$Reader", "endStatement", "()Z"⟩, 14) := ⟨⟨by decide +kernel, by decide +kernel⟩, List.mem_of_getElem? (i := 38) (by decide +kernel), List.mem_of_getElem? (i := 459) (by decide +kernel), List.mem_of_getElem? (i := 460) (by decide +kernel)⟩
theorem lw_p10 : lw_okq (⟨"TrunkDuel$Reader", "readBlocks", "()Z"⟩, 14) := ⟨⟨by decide +kernel, by decide +kernel⟩, List.mem_of_getElem? (i := 38) (by decide +kernel), List.mem_of_getElem? (i := 463) (by decide +kernel), List.mem_of_getElem? (i := 464) (by decide +kernel)⟩
theorem lw_p11 : lw_okq (⟨"TrunkDuel$Reader", "readFreeStraps", "()Z"⟩, 14) := ⟨⟨by decide +kernel, by decide +kernel⟩, List.mem_of_getElem? (i := 38) (by decide +kernel), List.mem_of_getElem? (i := 480) (by decide +kernel), List.mem_of_getElem? (i := 481) (by decide +kernel)⟩
theorem lw_p12 : lw_okq (⟨"TrunkDuel$Reader", "readEdge", "()Z"⟩, 14) := ⟨⟨by decide +kernel, by decide +kernel⟩, List.mem_of_getElem? (i := 38) (by decide +kernel), List.mem_of_getElem? (i := 485) (by decide +kernel), List.mem_of_getElem? (i := 486) (by decide +kernel)⟩
theorem lw_p13 : lw_okq (⟨"TrunkDuel$Reader", "readPlayer", "(I)Z"⟩, 14) := ⟨⟨by decide +kernel, by decide +kernel⟩, List.mem_of_getElem? (i := 38) (by decide +kernel), List.mem_of_getElem? (i := 513) (by decide +kernel), List.mem_of_getElem? (i := 514) (by decide +kernel)⟩
theorem lw_p14 : lw_okq (⟨"TrunkDuel$Reader", "readName", "(I)Z"⟩, 14) := ⟨⟨by decide +kernel, by decide +kernel⟩, List.mem_of_getElem? (i := 38) (by decide +kernel), List.mem_of_getElem? (i := 518) (by decide +kernel), List.mem_of_getElem? (i := 519) (by decide +kernel)⟩
theorem lw_p15 : lw_okq (⟨"TrunkDuel$Reader", "readPiece", "()Z"⟩, 14) := ⟨⟨by decide +kernel, by decide +kernel⟩, List.mem_of_getElem? (i := 38) (by decide +kernel), List.mem_of_getElem? (i := 543) (by decide +kernel), List.mem_of_getElem? (i := 544) (by decide +kernel)⟩
def lw_privs_1 : List (MethodName × Nat) := [(⟨"TrunkDuel$Reader", "writeByte", "(I)V"⟩, 14), (⟨"TrunkDuel$Reader", "nextToken", "()V"⟩, 14), (⟨"TrunkDuel$Reader", "endOfRun", "(II)I"⟩, 14), (⟨"TrunkDuel$Reader", "byteAt", "(I)I"⟩, 14), (⟨"TrunkDuel$Reader", "valueOfToken", "()I"⟩, 14), (⟨"TrunkDuel$Reader", "readSize", "()Z"⟩, 14), (⟨"TrunkDuel$Reader", "wordIs", "(Ljava/lang/String;)Z"⟩, 14), (⟨"TrunkDuel$Reader", "fail", "(I)Z"⟩, 14), (⟨"TrunkDuel$Reader", "expectNumber", "(II)I"⟩, 14), (⟨"TrunkDuel$Reader", "endStatement", "()Z"⟩, 14), (⟨"TrunkDuel$Reader", "readBlocks", "()Z"⟩, 14), (⟨"TrunkDuel$Reader", "readFreeStraps", "()Z"⟩, 14), (⟨"TrunkDuel$Reader", "readEdge", "()Z"⟩, 14), (⟨"TrunkDuel$Reader", "readPlayer", "(I)Z"⟩, 14), (⟨"TrunkDuel$Reader", "readName", "(I)Z"⟩, 14), (⟨"TrunkDuel$Reader", "readPiece", "()Z"⟩, 14)]
theorem lw_r1 : ∀ q ∈ lw_privs_1, lw_okq q := List.forall_mem_cons.mpr ⟨lw_p0, List.forall_mem_cons.mpr ⟨lw_p1, List.forall_mem_cons.mpr ⟨lw_p2, List.forall_mem_cons.mpr ⟨lw_p3, List.forall_mem_cons.mpr ⟨lw_p4, List.forall_mem_cons.mpr ⟨lw_p5, List.forall_mem_cons.mpr ⟨lw_p6, List.forall_mem_cons.mpr ⟨lw_p7, List.forall_mem_cons.mpr ⟨lw_p8, List.forall_mem_cons.mpr ⟨lw_p9, List.forall_mem_cons.mpr ⟨lw_p10, List.forall_mem_cons.mpr ⟨lw_p11, List.forall_mem_cons.mpr ⟨lw_p12, List.forall_mem_cons.mpr ⟨lw_p13, List.forall_mem_cons.mpr ⟨lw_p14, List.forall_mem_cons.mpr ⟨lw_p15, fun _ h => absurd h List.not_mem_nil⟩⟩⟩⟩⟩⟩⟩⟩⟩⟩⟩⟩⟩⟩⟩⟩
theorem lw_p16 : lw_okq (⟨"TrunkDuel$Reader", "shapeOfToken", "()I"⟩, 14) := ⟨⟨by decide +kernel, by decide +kernel⟩, List.mem_of_getElem? (i := 38) (by decide +kernel), List.mem_of_getElem? (i := 547) (by decide +kernel), List.mem_of_getElem? (i := 548) (by decide +kernel)⟩
theorem lw_p17 : lw_okq (⟨"TrunkDuel$Footprint", "findEdges", "()V"⟩, 11) := ⟨⟨by decide +kernel, by decide +kernel⟩, List.mem_of_getElem? (i := 163) (by decide +kernel), List.mem_of_getElem? (i := 566) (by decide +kernel), List.mem_of_getElem? (i := 567) (by decide +kernel)⟩
theorem lw_p18 : lw_okq (⟨"TrunkDuel$State", "endTurn", "(I)V"⟩, 6) := ⟨⟨by decide +kernel, by decide +kernel⟩, List.mem_of_getElem? (i := 44) (by decide +kernel), List.mem_of_getElem? (i := 640) (by decide +kernel), List.mem_of_getElem? (i := 641) (by decide +kernel)⟩
theorem lw_p19 : lw_okq (⟨"TrunkDuel$Reader", "readStrap", "()Z"⟩, 14) := ⟨⟨by decide +kernel, by decide +kernel⟩, List.mem_of_getElem? (i := 38) (by decide +kernel), List.mem_of_getElem? (i := 644) (by decide +kernel), List.mem_of_getElem? (i := 645) (by decide +kernel)⟩
theorem lw_p20 : lw_okq (⟨"java/lang/Throwable", "fillInStackTrace", "(I)Ljava/lang/Throwable;"⟩, 6) := ⟨⟨by decide +kernel, by decide +kernel⟩, List.mem_of_getElem? (i := 822) (by decide +kernel), List.mem_of_getElem? (i := 820) (by decide +kernel), List.mem_of_getElem? (i := 821) (by decide +kernel)⟩
theorem lw_p21 : lw_okq (⟨"TrunkDuel", "requireCell", "(II)V"⟩, 12) := ⟨⟨by decide +kernel, by decide +kernel⟩, List.mem_of_getElem? (i := 30) (by decide +kernel), List.mem_of_getElem? (i := 949) (by decide +kernel), List.mem_of_getElem? (i := 950) (by decide +kernel)⟩
theorem lw_p22 : lw_okq (⟨"TrunkDuel$Regions", "spreadFrom", "(IILTrunkDuel$Trunk;)V"⟩, 5) := ⟨⟨by decide +kernel, by decide +kernel⟩, List.mem_of_getElem? (i := 322) (by decide +kernel), List.mem_of_getElem? (i := 974) (by decide +kernel), List.mem_of_getElem? (i := 975) (by decide +kernel)⟩
theorem lw_p23 : lw_okq (⟨"TrunkDuel$Regions", "reach", "(IILTrunkDuel$Trunk;)V"⟩, 5) := ⟨⟨by decide +kernel, by decide +kernel⟩, List.mem_of_getElem? (i := 322) (by decide +kernel), List.mem_of_getElem? (i := 978) (by decide +kernel), List.mem_of_getElem? (i := 979) (by decide +kernel)⟩
theorem lw_p24 : lw_okq (⟨"TrunkDuel", "aimAt", "(IIII)V"⟩, 12) := ⟨⟨by decide +kernel, by decide +kernel⟩, List.mem_of_getElem? (i := 30) (by decide +kernel), List.mem_of_getElem? (i := 1006) (by decide +kernel), List.mem_of_getElem? (i := 1007) (by decide +kernel)⟩
theorem lw_p25 : lw_okq (⟨"TrunkDuel", "requireEdge", "(III)V"⟩, 12) := ⟨⟨by decide +kernel, by decide +kernel⟩, List.mem_of_getElem? (i := 30) (by decide +kernel), List.mem_of_getElem? (i := 1025) (by decide +kernel), List.mem_of_getElem? (i := 1026) (by decide +kernel)⟩
theorem lw_p26 : lw_okq (⟨"TrunkDuel", "requirePiece", "(I)V"⟩, 12) := ⟨⟨by decide +kernel, by decide +kernel⟩, List.mem_of_getElem? (i := 30) (by decide +kernel), List.mem_of_getElem? (i := 1049) (by decide +kernel), List.mem_of_getElem? (i := 1050) (by decide +kernel)⟩
theorem lw_p27 : lw_okq (⟨"TrunkDuel$Choice", "searchShape", "(ILTrunkDuel$Trunk;LTrunkDuel$Footprint;)V"⟩, 5) := ⟨⟨by decide +kernel, by decide +kernel⟩, List.mem_of_getElem? (i := 286) (by decide +kernel), List.mem_of_getElem? (i := 1178) (by decide +kernel), List.mem_of_getElem? (i := 1179) (by decide +kernel)⟩
theorem lw_p28 : lw_okq (⟨"TrunkDuel$Choice", "take", "(LTrunkDuel$Footprint;I)V"⟩, 5) := ⟨⟨by decide +kernel, by decide +kernel⟩, List.mem_of_getElem? (i := 286) (by decide +kernel), List.mem_of_getElem? (i := 1185) (by decide +kernel), List.mem_of_getElem? (i := 1186) (by decide +kernel)⟩
theorem lw_p29 : lw_okq (⟨"TrunkDuel$Crossings", "countShape", "(ILTrunkDuel$Trunk;LTrunkDuel$Footprint;)V"⟩, 1) := ⟨⟨by decide +kernel, by decide +kernel⟩, List.mem_of_getElem? (i := 312) (by decide +kernel), List.mem_of_getElem? (i := 1198) (by decide +kernel), List.mem_of_getElem? (i := 1199) (by decide +kernel)⟩
theorem lw_p30 : lw_okq (⟨"TrunkDuel$Crossings", "countEdge", "(III)V"⟩, 1) := ⟨⟨by decide +kernel, by decide +kernel⟩, List.mem_of_getElem? (i := 312) (by decide +kernel), List.mem_of_getElem? (i := 1207) (by decide +kernel), List.mem_of_getElem? (i := 1208) (by decide +kernel)⟩
def lw_privs_2 : List (MethodName × Nat) := [(⟨"TrunkDuel$Reader", "shapeOfToken", "()I"⟩, 14), (⟨"TrunkDuel$Footprint", "findEdges", "()V"⟩, 11), (⟨"TrunkDuel$State", "endTurn", "(I)V"⟩, 6), (⟨"TrunkDuel$Reader", "readStrap", "()Z"⟩, 14), (⟨"java/lang/Throwable", "fillInStackTrace", "(I)Ljava/lang/Throwable;"⟩, 6), (⟨"TrunkDuel", "requireCell", "(II)V"⟩, 12), (⟨"TrunkDuel$Regions", "spreadFrom", "(IILTrunkDuel$Trunk;)V"⟩, 5), (⟨"TrunkDuel$Regions", "reach", "(IILTrunkDuel$Trunk;)V"⟩, 5), (⟨"TrunkDuel", "aimAt", "(IIII)V"⟩, 12), (⟨"TrunkDuel", "requireEdge", "(III)V"⟩, 12), (⟨"TrunkDuel", "requirePiece", "(I)V"⟩, 12), (⟨"TrunkDuel$Choice", "searchShape", "(ILTrunkDuel$Trunk;LTrunkDuel$Footprint;)V"⟩, 5), (⟨"TrunkDuel$Choice", "take", "(LTrunkDuel$Footprint;I)V"⟩, 5), (⟨"TrunkDuel$Crossings", "countShape", "(ILTrunkDuel$Trunk;LTrunkDuel$Footprint;)V"⟩, 1), (⟨"TrunkDuel$Crossings", "countEdge", "(III)V"⟩, 1)]
theorem lw_r2 : ∀ q ∈ lw_privs_2, lw_okq q := List.forall_mem_cons.mpr ⟨lw_p16, List.forall_mem_cons.mpr ⟨lw_p17, List.forall_mem_cons.mpr ⟨lw_p18, List.forall_mem_cons.mpr ⟨lw_p19, List.forall_mem_cons.mpr ⟨lw_p20, List.forall_mem_cons.mpr ⟨lw_p21, List.forall_mem_cons.mpr ⟨lw_p22, List.forall_mem_cons.mpr ⟨lw_p23, List.forall_mem_cons.mpr ⟨lw_p24, List.forall_mem_cons.mpr ⟨lw_p25, List.forall_mem_cons.mpr ⟨lw_p26, List.forall_mem_cons.mpr ⟨lw_p27, List.forall_mem_cons.mpr ⟨lw_p28, List.forall_mem_cons.mpr ⟨lw_p29, List.forall_mem_cons.mpr ⟨lw_p30, fun _ h => absurd h List.not_mem_nil⟩⟩⟩⟩⟩⟩⟩⟩⟩⟩⟩⟩⟩⟩⟩
def lw_privs : List (MethodName × Nat) := lw_privs_1 ++ (lw_privs_2)
def lw_tbl : List Cond := k2_sels lw_privs ++ tables_1
theorem lw_privs_ok : ∀ q ∈ lw_privs, lw_okq q := by
  show ∀ q ∈ lw_privs_1 ++ (lw_privs_2), lw_okq q
  exact List.forall_mem_append.mpr ⟨lw_r1, lw_r2⟩
end
section
/-! ===== BEGIN words of one list among another's, by their places ===== -/
theorem goodIn_r {big : List Cond} (ws : List Cond) (ps : List Nat) (hp : ws = ps.filterMap (fun i => big[i]?)) (h : ws.all goodWord = true) : GoodIn big ws := by
  intro w hw
  have h1 := List.all_eq_true.mp h w hw
  rw [hp] at hw
  obtain ⟨i, -, hi⟩ := List.mem_filterMap.mp hw
  have hm : w ∈ big := by first | exact List.mem_of_getElem? hi | exact List.getElem?_mem hi
  exact ⟨hm, good_of_word h1⟩
theorem goodIn_app {big a b : List Cond} (ha : GoodIn big a) (hb : GoodIn big b) : GoodIn big (a ++ b) := fun w h => (List.mem_append.mp h).elim (ha w) (hb w)
theorem goodIn_ca {big a b : List Cond} {c : Cond} (ha : GoodIn big (c :: a)) (hb : GoodIn big b) : GoodIn big (c :: (a ++ b)) := fun w h => (List.mem_cons.mp h).elim (fun e => ha w (List.mem_cons.mpr (Or.inl e))) (fun h => (List.mem_append.mp h).elim (fun h => ha w (List.mem_cons.mpr (Or.inr h))) (hb w))
theorem goodIn_sub {big ws : List Cond} (hm : ∀ w ∈ ws, w ∈ big) (h : ws.all goodWord = true) : GoodIn big ws := fun w hw => ⟨hm w hw, good_of_word (List.all_eq_true.mp h w hw)⟩
/-! ===== END ===== -/

/-! ===== BEGIN exceptions that leave a method, and their catching by the caller (launches without stack traces) ===== -/
section VXA
/-! The laws vx_back, vx_callV, vx_callS, vx_callSW, vx_throw0, vx_throwS follow proofs of the library, with one case more: JvmDerived/Free/Laws.lean (Back.of_free), Shelf42/LK1.lean (callV, callS), Shelf/KitTraced.lean (throwNew0V, throwNewS). -/
/-- where a method has thrown q: the class by its name, the cell, what was written, the world -/
def vx_T (XC : String → State → State → Prop) (st : State) (q : Addr) (t : State) (mc ms : Nat) (free : Addr → Prop) : Prop :=
  ∃ (E : String) (ce : Cell) (L : List Loc), XC E st t ∧ t.heap[q]? = some ce ∧ ce.vm = .none ∧ st.vm.findClass E = some ce.cls ∧ st.WarmedH t.vm ∧ st.sameButNew ({ t with vm := st.vm } : State) L mc ms ∧ ∀ z ∈ L, free z.base
def vx_Q (Qc : Array Value → State → Outcome → State → Prop) (XC : String → State → State → Prop) (mc ms : Nat) (free : Addr → Prop) : Array Value → State → Outcome → State → Prop := fun a st o t =>
  (Qc a st o t ∧ ∃ L, FrameEnd st o t L mc ms ∧ ∀ q ∈ L, free q.base) ∨ ∃ q, o = .threw q ∧ vx_T XC st q t mc ms free
/-- a callee that returns or throws -/
def vx_Met (l : Launch) (y : MethodName) (ws : List Cond) (rm : Room) (Pc : Array Value → State → Prop) (Qc : Array Value → State → Outcome → State → Prop) (XC : String → State → State → Prop) (mc ms : Nat) (free : Addr → Prop) : Prop :=
  MetFree l y (headSpec ws rm) Pc (fun _ _ _ _ _ => True) (vx_Q Qc XC mc ms free)
def vx_Post (XC : String → State → State → Prop) (mc ms : Nat) (free : Addr → Prop) : Pt → Array Value → Addr → Pt → Prop := fun A a q B =>
  ∃ (g : JFrame) (mk : MethodId) (t : State) (L : List Loc) (E : String) (ce : Cell), B.U.heap = t.heap ∧ B.U.vm = t.vm ∧ XC E (A.U.calling g mk a) t ∧ t.heap[q]? = some ce ∧ ce.vm = .none ∧ A.U.vm.findClass E = some ce.cls ∧ B.locs = A.locs ++ L ∧ (∀ z ∈ L, free z.base) ∧ B.cells = A.cells + mc ∧ B.slots = A.slots + ms
def vx_Back (l : Launch) (R : Room) (p : Program) (e : Env) (below : List Frame) (s : State) (sargs : Array Value) (y : MethodName) (len W9 : Nat)
    (Pre : Pt → Array Value → Prop) (Post : Pt → Array Value → Option Value → Pt → Prop) (PostX : Pt → Array Value → Addr → Pt → Prop) : Prop :=
  ∀ (m : MethodId) (meth : Method) (c : Code) (A : Pt) (g : JFrame) (ig : Instr) (mk : MethodId) (a : Array Value),
    Stand p l e R s m sargs below meth c A.U A.locs A.cells A.slots → g.method = m → g.locals.size = c.maxLocals → decode c.code g.pc = .ok (ig, len) →
    2 * g.monitorRoom + (g.stack.map fun v => v.category).sum ≤ W9 → A.U.methodNamed? y = some mk → Pre A a →
    (∃ (v : Option Value) (B : Pt), Stand p l e R s m sargs below meth c B.U B.locs B.cells B.slots ∧ Post A a v B ∧
      Steps p.tables e below (doInvoke e (A.U.setTop g) [] mk a).1 (B.U.setTop { g with pc := g.pc + len, stack := v.toList ++ g.stack })) ∨
    (∃ (q : Addr) (B : Pt), Stand p l e R s m sargs below meth c B.U B.locs B.cells B.slots ∧ PostX A a q B ∧
      Steps p.tables e below (doInvoke e (A.U.setTop g) [] mk a).1 ((B.U.setTop g).pushFrame (.throwing q)))
section Payer
variable {l : Launch} {R : Room} {p : Program} {e : Env} {below : List Frame} {s : State} {sargs : Array Value} {y : MethodName} {len W9 : Nat}
theorem vx_back {ws : List Cond} {rm : Room} {Pc : Array Value → State → Prop} {Qc : Array Value → State → Outcome → State → Prop} {XC : String → State → State → Prop} {mc ms : Nat} {free : Addr → Prop} {bytes : ByteArray} {maxL : Nat} {ret : Option FieldType}
    (hM : vx_Met l y ws rm Pc Qc XC mc ms free) (hblind : FrameBlind Pc) (hrc : rm.cells = mc) (hrs : rm.slots = ms)
    (hframes : rm.frames + 1 ≤ R.frames) (hlocals : W9 + (maxL + 11) + rm.locals ≤ R.locals)
    (hws : ∀ w ∈ ws, ∀ a' U, s.WarmedH U.vm → w.before a' U = true) (hcode : Cond.code y bytes maxL ret ∈ ws) (hinit : ∀ a' U, s.WarmedH U.vm → (Cond.initialized y.cls).before a' U = true) :
    vx_Back l R p e below s sargs y len W9 (PreOf R mc ms Pc) (PostOf Qc mc ms free) (vx_Post XC mc ms free) := by
  intro m meth c A g ig mk a X hg hsize hdg hW hn hp
  have h1 : (headSpec ws rm).pre.before a A.U = true := atoms_intro fun w hw => hws w hw _ _ X.warmed
  have h2 : (Cond.code y bytes maxL ret).before a A.U = true := hws _ hcode _ _ X.warmed
  have h3 : (Cond.initialized y.cls).before a A.U = true := hinit _ _ X.warmed
  have h4 : A.cells + (headSpec ws rm).room.cells ≤ R.cells := by rw [show (headSpec ws rm).room.cells = mc from hrc]; exact hp.1
  have h5 : A.slots + (headSpec ws rm).room.slots ≤ R.slots := by rw [show (headSpec ws rm).room.slots = ms from hrs]; exact hp.2.1
  have hPc : Pc a (A.U.calling g mk a) := hblind _ _ _ _ hp.2.2
  obtain ⟨U, Ls, c0, s0⟩ := A
  dsimp only [Pt.U, Pt.locs, Pt.cells, Pt.slots] at h1 h2 h3 h4 h5 X hn hPc ⊢
  obtain ⟨methY, cY, hmY, hcY, -, hlY, -, -, -, -⟩ := Cond.code_spec hn h2
  obtain ⟨kY, hkY, -⟩ := className_of_methodNamed hn
  have hinitY : kY.init = .initialized := Cond.initialized_spec (findClass_of_methodNamed hn) hkY h3
  have h : At U g.method c below := by rw [hg]; exact X.here
  have hlocals9 : W9 + (maxL + 11) + (headSpec ws rm).room.locals ≤ R.locals := hlocals
  have happ : (headSpec ws rm).appliesLoose y e.platform (U.calling g mk a) = true :=
    Spec.appliesLoose_calling (g := g) h hdg hn hkY hinitY
      (X.room_calling (g := g) (R' := (headSpec ws rm).room) hsize hmY hcY hframes (by rw [hlY]; omega) h4 h5) h1
  obtain ⟨mid, hmid⟩ := h.above
  have hfr : (U.setTop g).frames = (.java g :: mid) ++ below := by rw [State.frames_setTop' g h.top, hmid]; rfl
  obtain ⟨o, s₂, hsteps, -, hend, hq⟩ := Steps.callFree hM p X.admits X.cas X.clock (acts := []) hfr happ hPc trivial
  have hq' : vx_Q Qc XC mc ms free a (U.calling g mk a) o s₂ := hq
  rw [State.frames_setTop' g h.top] at hend
  obtain ⟨g₀, hg0⟩ := Option.isSome_iff_exists.mp h.top
  obtain ⟨r, hr⟩ := State.topJava?_eq_some.mp hg0
  have hr' : (({ U with heap := s₂.heap, slotsUsed := s₂.slotsUsed } : State).setVm s₂.vm).frames = .java g₀ :: r := hr
  rcases hq' with ⟨hqc, L, hfe, hL⟩ | ⟨q, rfl, E, ce, L, hx, hce, hcv, hcl, hW₂, hsm, hL⟩
  · obtain ⟨⟨v, rfl⟩, hW₂, e2, q2, q3, q4, q5, q6⟩ := id hfe
    have e3 : s₂ = ({ (U.calling g mk a).setFrames s₂.frames with heap := s₂.heap, slotsUsed := s₂.slotsUsed } : State).setVm s₂.vm := by
      have : s₂ = ({ s₂ with vm := (U.calling g mk a).vm } : State).setVm s₂.vm := rfl
      rw [e2] at this
      exact this
    obtain ⟨c₂, i₂, len₂, hc₂, hd₂, hf₂⟩ := hend
    have hW' : U.WarmedH s₂.vm := hW₂
    have hcc : c₂ = c := by
      have h1 : s₂.code? g.method = U.code? g.method := by
        rw [State.code?_eq, State.code?_eq, hW'.alike.method?]
      exact Option.some.inj (hc₂.symm.trans (h1.trans h.code))
    subst hcc
    have hlen : len₂ = len := by rw [hdg] at hd₂; cases hd₂; rfl
    subst hlen
    have hs₂ : s₂ = (({ U with heap := s₂.heap, slotsUsed := s₂.slotsUsed } : State).setVm s₂.vm).setTop { g with pc := g.pc + len₂, stack := v.toList ++ g.stack } := by
      refine e3.trans ?_
      rw [hf₂, State.calling_eq h.top, State.setFrames_setFrames, State.setTop_of_frames _ hr', hr]
      rfl
    have hsame : U.sameButNew ({ U with heap := s₂.heap, slotsUsed := s₂.slotsUsed } : State) L mc ms := by
      refine ⟨?_, q2, q3, q4, q5, q6⟩
      obtain ⟨t, ht, -⟩ := State.frames_cons hr
      show ({ U with heap := s₂.heap, slotsUsed := s₂.slotsUsed } : State) = { U.setFrames U.frames with heap := s₂.heap, slotsUsed := s₂.slotsUsed }
      rw [State.setFrames_self ht]
    subst hg
    refine Or.inl ⟨v, ⟨(({ U with heap := s₂.heap, slotsUsed := s₂.slotsUsed } : State).setVm s₂.vm), Ls ++ L, c0 + mc, s0 + ms⟩,
      ⟨X.admits, X.cas, X.clock, X.frames, X.room, X.hears, X.method, X.code, (X.here.setHeapUsed s₂.heap s₂.slotsUsed).setVm hW'.alike, X.tail, State.WarmedH.trans X.warmed hW', X.limits, X.bytes, X.same.trans (hsame.setVm s.vm)⟩,
      ⟨g, mk, s₂, L, rfl, rfl, hqc, rfl, hL, rfl, rfl⟩, ?_⟩
    show Steps p.tables e below _ ((({ U with heap := s₂.heap, slotsUsed := s₂.slotsUsed } : State).setVm s₂.vm).setTop { g with pc := g.pc + len₂, stack := v.toList ++ g.stack })
    rw [← hs₂]
    exact hsteps
  · obtain ⟨e2, q2, q3, q4, q5, q6⟩ := id hsm
    have e3 : s₂ = ({ (U.calling g mk a).setFrames s₂.frames with heap := s₂.heap, slotsUsed := s₂.slotsUsed } : State).setVm s₂.vm := by
      have : s₂ = ({ s₂ with vm := (U.calling g mk a).vm } : State).setVm s₂.vm := rfl
      rw [e2] at this
      exact this
    have hf₂ : s₂.frames = .throwing q :: .java g :: U.frames.tail := hend
    have hW' : U.WarmedH s₂.vm := hW₂
    have hs₂ : s₂ = ((({ U with heap := s₂.heap, slotsUsed := s₂.slotsUsed } : State).setVm s₂.vm).setTop g).pushFrame (.throwing q) := by
      refine e3.trans ?_
      rw [hf₂, State.calling_eq h.top, State.setFrames_setFrames, State.pushFrame, State.frames_setTop _ hr', State.setTop_of_frames _ hr', State.setFrames_setFrames, hr]
      rfl
    have hsame : U.sameButNew ({ U with heap := s₂.heap, slotsUsed := s₂.slotsUsed } : State) L mc ms := by
      refine ⟨?_, q2, q3, q4, q5, q6⟩
      obtain ⟨t, ht, -⟩ := State.frames_cons hr
      show ({ U with heap := s₂.heap, slotsUsed := s₂.slotsUsed } : State) = { U.setFrames U.frames with heap := s₂.heap, slotsUsed := s₂.slotsUsed }
      rw [State.setFrames_self ht]
    subst hg
    refine Or.inr ⟨q, ⟨(({ U with heap := s₂.heap, slotsUsed := s₂.slotsUsed } : State).setVm s₂.vm), Ls ++ L, c0 + mc, s0 + ms⟩,
      ⟨X.admits, X.cas, X.clock, X.frames, X.room, X.hears, X.method, X.code, (X.here.setHeapUsed s₂.heap s₂.slotsUsed).setVm hW'.alike, X.tail, State.WarmedH.trans X.warmed hW', X.limits, X.bytes, X.same.trans (hsame.setVm s.vm)⟩,
      ⟨g, mk, s₂, L, E, ce, rfl, rfl, hx, hce, hcv, hcl, rfl, hL, rfl, rfl⟩, ?_⟩
    show Steps p.tables e below _ (((({ U with heap := s₂.heap, slotsUsed := s₂.slotsUsed } : State).setVm s₂.vm).setTop g).pushFrame (.throwing q))
    rw [← hs₂]
    exact hsteps
end Payer
section Calls
variable {p : Program} {l : Launch} {e : Env} {R : Room} {s : State} {m : MethodId} {args : Array Value} {below : List Frame} {meth : Method} {c : Code} {T : State} {locs : List Loc} {cells slots : Nat}
theorem vx_callV (X : Stand p l e R s m args below meth c T locs cells slots) (hexec : p.tables.exec = Jvm.exec) {own C : String} {index : Nat} {y : MethodName} {bytes : ByteArray} {maxL : Nat} {ret : Option FieldType}
    (hown : s.vm.findClass own = some m.cls) (hlink : (Cond.methodLink own index y).before args s = true) (hinst : (Cond.instanceMethod y).before args s = true) (hsel : (Cond.selects C y y).before args s = true)
    (hcode : (Cond.code y bytes maxL ret).before args s = true) (hy : y.cls ≠ "java/lang/invoke/MethodHandle" ∧ y.cls ≠ "java/lang/invoke/VarHandle")
    {W9 : Nat} {Pre : Pt → Array Value → Prop} {Post : Pt → Array Value → Option Value → Pt → Prop} {PostX : Pt → Array Value → Addr → Pt → Prop} (hK : vx_Back l R p e below s args y 3 W9 Pre Post PostX)
    {b : Addr} {cellB : Cell} (hcell : T.heap[b]? = some cellB) (hobj : cellB.vm.isStatics = false) (hcls : s.vm.findClass C = some cellB.cls)
    {g : JFrame} (hg : g.method = m) (hsize : g.locals.size = c.maxLocals) {argsL rest : List Value} (hlen : ∀ sig, parseMethodDescriptor y.desc = some sig → argsL.length = sig.parameters.length)
    (hstack : g.stack = argsL.reverse ++ .ref b :: rest) (hW : 2 * g.monitorRoom + (rest.map fun v => v.category).sum ≤ W9) (hdg : decode c.code g.pc = .ok (.invokevirtual index, 3))
    (hpre : ∀ vm₁, s.WarmedH vm₁ → Pre ⟨T.setVm vm₁, locs, cells, slots⟩ (Value.ref b :: argsL).toArray) :
    (∃ (v : Option Value) (vm₁ : Vm) (B : Pt), s.WarmedH vm₁ ∧ Stand p l e R s m args below meth c B.U B.locs B.cells B.slots ∧ Post ⟨T.setVm vm₁, locs, cells, slots⟩ (Value.ref b :: argsL).toArray v B ∧
      ∀ target, Steps p.tables e below (B.U.setTop { g with pc := g.pc + 3, stack := v.toList ++ rest }) target → Steps p.tables e below (T.setTop g) target) ∨
    (∃ (q : Addr) (vm₁ : Vm) (B : Pt), s.WarmedH vm₁ ∧ Stand p l e R s m args below meth c B.U B.locs B.cells B.slots ∧ PostX ⟨T.setVm vm₁, locs, cells, slots⟩ (Value.ref b :: argsL).toArray q B ∧
      Steps p.tables e below (T.setTop g) ((B.U.setTop { g with stack := rest }).pushFrame (.throwing q))) := by
  obtain ⟨mk, methM, hnamed, hmethM, hstM, habM⟩ := Cond.instanceMethod_spec hinst
  obtain ⟨methM', cM, hmethM', -, -, -, -, -, -, hsigM⟩ := Cond.code_spec hnamed hcode
  cases hmethM.symm.trans hmethM'
  obtain ⟨c2, r2, m2, q1, q2, q3, q4, kP, hkP, hkPi⟩ := Cond.selects_spec hsel
  cases hcls.symm.trans q1
  cases (State.methodFound?_of_named hnamed hy).symm.trans q2
  cases hnamed.symm.trans q3
  have hselP : selectMethod e.platform s.vm cellB.cls mk = .method mk := by rw [Launch.admits_selectMethod X.admits]; exact q4
  obtain ⟨vm₁, X₁, hstep₁⟩ := X.invokevirtual hexec hown hlink hnamed hmethM hstM hkP hkPi hy (a := b) (cell := cellB) hcell
    (fun z h => by rw [h] at hobj; cases hobj) hselP hmethM habM hkP hkPi (g := g) hg (argsL := argsL) (rest := rest) (hlen _ hsigM) hstack hdg
  rcases hK m meth c ⟨T.setVm vm₁, locs, cells, slots⟩ { g with stack := rest } (.invokevirtual index) mk (Value.ref b :: argsL).toArray X₁ hg hsize hdg hW (X₁.named hnamed) (hpre vm₁ X₁.warmed) with ⟨v, B, X', hpost, hsteps⟩ | ⟨q, B, X', hpost, hsteps⟩
  · exact Or.inl ⟨v, vm₁, B, X₁.warmed, X', hpost, fun target h => hstep₁ _ fun acts => by rw [doInvoke_state]; exact hsteps.trans h⟩
  · exact Or.inr ⟨q, vm₁, B, X₁.warmed, X', hpost, hstep₁ _ fun acts => by rw [doInvoke_state]; exact hsteps⟩
theorem vx_callS (X : Stand p l e R s m args below meth c T locs cells slots) (hexec : p.tables.exec = Jvm.exec) {own : String} {index : Nat} {y : MethodName} {bytes : ByteArray} {maxL : Nat} {ret : Option FieldType}
    (hown : s.vm.findClass own = some m.cls) (hlink : (Cond.methodLink own index y).before args s = true) (hstat : (Cond.static y).before args s = true) (hinit : (Cond.initialized y.cls).before args s = true)
    (hcode : (Cond.code y bytes maxL ret).before args s = true) (hy : y.cls ≠ "java/lang/invoke/MethodHandle" ∧ y.cls ≠ "java/lang/invoke/VarHandle")
    {W9 : Nat} {Pre : Pt → Array Value → Prop} {Post : Pt → Array Value → Option Value → Pt → Prop} {PostX : Pt → Array Value → Addr → Pt → Prop} (hK : vx_Back l R p e below s args y 3 W9 Pre Post PostX)
    {g : JFrame} (hg : g.method = m) (hsize : g.locals.size = c.maxLocals) {argsL rest : List Value} (hlen : ∀ sig, parseMethodDescriptor y.desc = some sig → argsL.length = sig.parameters.length)
    (hstack : g.stack = argsL.reverse ++ rest) (hW : 2 * g.monitorRoom + (rest.map fun v => v.category).sum ≤ W9) (hdg : decode c.code g.pc = .ok (.invokestatic index, 3))
    (hpre : ∀ vm₁, s.WarmedH vm₁ → Pre ⟨T.setVm vm₁, locs, cells, slots⟩ argsL.toArray) :
    (∃ (v : Option Value) (vm₁ : Vm) (B : Pt), s.WarmedH vm₁ ∧ Stand p l e R s m args below meth c B.U B.locs B.cells B.slots ∧ Post ⟨T.setVm vm₁, locs, cells, slots⟩ argsL.toArray v B ∧
      ∀ target, Steps p.tables e below (B.U.setTop { g with pc := g.pc + 3, stack := v.toList ++ rest }) target → Steps p.tables e below (T.setTop g) target) ∨
    (∃ (q : Addr) (vm₁ : Vm) (B : Pt), s.WarmedH vm₁ ∧ Stand p l e R s m args below meth c B.U B.locs B.cells B.slots ∧ PostX ⟨T.setVm vm₁, locs, cells, slots⟩ argsL.toArray q B ∧
      Steps p.tables e below (T.setTop g) ((B.U.setTop { g with stack := rest }).pushFrame (.throwing q))) := by
  obtain ⟨mk, hnamed⟩ := Cond.code_named hcode
  obtain ⟨methM, cM, hmethM, -, -, -, -, -, -, hsigM⟩ := Cond.code_spec hnamed hcode
  have hstatic : methM.isStatic = true := Cond.static_spec hnamed hmethM hstat
  obtain ⟨kP, hkP, -⟩ := className_of_methodNamed hnamed
  have hinitP : kP.init = .initialized := Cond.initialized_spec (findClass_of_methodNamed hnamed) hkP hinit
  obtain ⟨vm₁, X₁, hstep₁⟩ := X.invokestatic hexec hown hlink hnamed hmethM hstatic hkP hinitP hy (g := g) hg (argsL := argsL) (rest := rest) (hlen _ hsigM) hstack hdg
  rcases hK m meth c ⟨T.setVm vm₁, locs, cells, slots⟩ { g with stack := rest } (.invokestatic index) mk argsL.toArray X₁ hg hsize hdg hW (X₁.named hnamed) (hpre vm₁ X₁.warmed) with ⟨v, B, X', hpost, hsteps⟩ | ⟨q, B, X', hpost, hsteps⟩
  · exact Or.inl ⟨v, vm₁, B, X₁.warmed, X', hpost, fun target h => hstep₁ _ fun acts => by rw [doInvoke_state]; exact hsteps.trans h⟩
  · exact Or.inr ⟨q, vm₁, B, X₁.warmed, X', hpost, hstep₁ _ fun acts => by rw [doInvoke_state]; exact hsteps⟩
end Calls
theorem vx_cls {s : State} {T : State} {vm₁ : Vm} {E : String} {k : ClassId} (hW : s.WarmedH vm₁) (h : (T.setVm vm₁).vm.findClass E = some k) : s.vm.findClass E = some k := by
  have h1 : vm₁.findClass E = some k := h
  rw [hW.alike.findClass] at h1
  exact h1
/-- the method's frame g, with q thrown over it -/
def vx_W (p : Program) (l : Launch) (e : Env) (R : Room) (s : State) (m : MethodId) (args : Array Value) (below : List Frame) (meth : Method) (c : Code) (H : Heap) (locs : List Loc) (cells slots : Nat) (Q : State → Prop) (g : JFrame) (q : Addr) : Prop :=
  ∀ T : State, T.heap = H → Stand p l e R s m args below meth c T locs cells slots → ∃ t, Steps p.tables e below ((T.setTop g).pushFrame (.throwing q)) t ∧ Q t
def vx_Run (p : Program) (l : Launch) (e : Env) (R : Room) (s : State) (m : MethodId) (args : Array Value) (below : List Frame) (meth : Method) (c : Code) (H : Heap) (locs : List Loc) (cells slots mc ms : Nat) (g : JFrame) (rest : List Value) (Qa : State → Outcome → State → Prop) (XC : String → State → State → Prop) (free : Addr → Prop) : Prop :=
  ∀ T : State, T.heap = H → Stand p l e R s m args below meth c T locs cells slots →
    (∃ (v : Option Value) (st₀ t T' : State) (L : List Loc), st₀.heap = H ∧ Stand p l e R s m args below meth c T' (locs ++ L) (cells + mc) (slots + ms) ∧ (∀ q ∈ L, free q.base) ∧ T'.heap = t.heap ∧ T'.vm = t.vm ∧ Qa st₀ (.returned v) t ∧
      Goes p e below T g T' { g with pc := g.pc + 3, stack := v.toList ++ rest }) ∨
    (∃ (q : Addr) (st₀ t T' : State) (L : List Loc) (E : String) (ce : Cell), st₀.heap = H ∧ Stand p l e R s m args below meth c T' (locs ++ L) (cells + mc) (slots + ms) ∧ (∀ z ∈ L, free z.base) ∧ T'.heap = t.heap ∧ T'.vm = t.vm ∧ XC E st₀ t ∧ t.heap[q]? = some ce ∧ ce.vm = .none ∧ s.vm.findClass E = some ce.cls ∧
      Steps p.tables e below (T.setTop g) ((T'.setTop { g with stack := rest }).pushFrame (.throwing q)))
def vx_X {S : Type} (px : S → Prop) (B : String → S → State → Prop) (A : Nat → Prop) : String → State → State → Prop := fun E st t => ∃ u : S, px u ∧ B E u t ∧ va_F A st t
section Runs
variable {p : Program} {l : Launch} {e : Env} {R : Room} {s : State} {m : MethodId} {args : Array Value} {below : List Frame} {meth : Method} {c : Code} {H : Heap} {locs : List Loc} {cells slots : Nat}
variable {y : MethodName} {bytes cc : ByteArray} {maxL nL mc ms n index : Nat} {ret : Option FieldType} {ws : List Cond} {rm : Room} {Pc : Array Value → State → Prop} {Qc : Array Value → State → Outcome → State → Prop} {XC : String → State → State → Prop} {free : Addr → Prop} {Ts : List Cond} {own C : String} {b : Addr} {As rest : List Value} {g : JFrame}
theorem vx_callBack (cb : CallB R s args own index y bytes maxL ret ws rm mc ms n) (hM : vx_Met l y ws rm Pc Qc XC mc ms free) (hbl : FrameBlind Pc) : vx_Back l R p e below s args y 3 8 (PreOf R mc ms Pc) (PostOf Qc mc ms free) (vx_Post XC mc ms free) := by
  obtain ⟨hrc, hrs, hfr, hlo, hws, hcw, -, hini, -⟩ := cb
  exact vx_back (bytes := bytes) (maxL := maxL) (ret := ret) hM hbl hrc hrs hfr hlo hws hcw (fun a' U hW => word_at hW (Or.inl (by first | rfl | simp [Cond.onTables, Cond.keeps, Cond.steady])) hini)
theorem vx_runV (S : CallFix p m c cc nL s args Ts own) (hM : vx_Met l y ws rm Pc Qc XC mc ms free) (cw : CallW R s args own C index y bytes maxL ret ws rm mc ms n) (hp : PreV s H C b Pc As)
    (hg : g.method = m) (hn : As.length = n) (hsize : g.locals.size = nL) (hstack : g.stack = As.reverse ++ .ref b :: rest) (hW : 2 * g.monitorRoom + (rest.map fun v => v.category).sum ≤ 8) (hdg : decode cc g.pc = .ok (.invokevirtual index, 3)) (hf : cells + mc ≤ R.cells ∧ slots + ms ≤ R.slots) :
    vx_Run p l e R s m args below meth c H locs cells slots mc ms g rest (Qc (Value.ref b :: As).toArray) XC free := by
  have hK : vx_Back l R p e below s args y 3 8 (PreOf R mc ms Pc) (PostOf Qc mc ms free) (vx_Post XC mc ms free) := vx_callBack cw.1 hM hp.1
  obtain ⟨⟨-, -, -, -, -, -, hcode, -, hy, hlen, hl⟩, hin, hse⟩ := cw
  obtain ⟨hx, hb, hml, ho, -⟩ := S
  obtain ⟨-, ⟨cellB, hcB, hoB, hclB⟩, hPc⟩ := hp
  intro T hT X
  rcases vx_callV X hx (C := C) (bytes := bytes) (maxL := maxL) (ret := ret) ho hl hin hse hcode hy hK (by rw [hT]; exact hcB) hoB hclB hg (hsize.trans hml.symm) (argsL := As) (rest := rest) (fun sig h => hn.trans (hlen sig h)) hstack hW (by rw [hb]; exact hdg)
    (fun vm₁ hW₁ => ⟨hf.1, hf.2, hPc (T.setVm vm₁) hT hW₁⟩) with ⟨v, vm₁, ⟨U', l2, c2, s2⟩, hW₁, X', ⟨g', mk, t, L, e1, e2, hq, h1, hL, h2, h3⟩, st⟩ | ⟨q, vm₁, ⟨U', l2, c2, s2⟩, hW₁, X', ⟨g', mk, t, L, E, ce, e1, e2, hq, hce, hcv, hcl, h1, hL, h2, h3⟩, st⟩
  · dsimp only [Pt.U, Pt.locs, Pt.cells, Pt.slots] at X' e1 e2 h1 h2 h3 st
    subst h1; subst h2; subst h3
    exact Or.inl ⟨v, (T.setVm vm₁).calling g' mk (Value.ref b :: As).toArray, t, U', L, hT, X', hL, e1, e2, hq, st⟩
  · dsimp only [Pt.U, Pt.locs, Pt.cells, Pt.slots] at X' e1 e2 h1 h2 h3 st hcl
    subst h1; subst h2; subst h3
    exact Or.inr ⟨q, (T.setVm vm₁).calling g' mk (Value.ref b :: As).toArray, t, U', L, E, ce, hT, X', hL, e1, e2, hq, hce, hcv, vx_cls hW₁ hcl, st⟩
theorem vx_runS (S : CallFix p m c cc nL s args Ts own) (hM : vx_Met l y ws rm Pc Qc XC mc ms free) (cw : CallB R s args own index y bytes maxL ret ws rm mc ms n ∧ (Cond.static y).before args s = true) (hp : PreS s H Pc As)
    (hg : g.method = m) (hn : As.length = n) (hsize : g.locals.size = nL) (hstack : g.stack = As.reverse ++ rest) (hW : 2 * g.monitorRoom + (rest.map fun v => v.category).sum ≤ 8) (hdg : decode cc g.pc = .ok (.invokestatic index, 3)) (hf : cells + mc ≤ R.cells ∧ slots + ms ≤ R.slots) :
    vx_Run p l e R s m args below meth c H locs cells slots mc ms g rest (Qc As.toArray) XC free := by
  have hK : vx_Back l R p e below s args y 3 8 (PreOf R mc ms Pc) (PostOf Qc mc ms free) (vx_Post XC mc ms free) := vx_callBack cw.1 hM hp.1
  obtain ⟨⟨-, -, -, -, -, -, hcode, hini, hy, hlen, hl⟩, hstt⟩ := cw
  obtain ⟨hx, hb, hml, ho, -⟩ := S
  intro T hT X
  rcases vx_callS X hx (bytes := bytes) (maxL := maxL) (ret := ret) ho hl hstt hini hcode hy hK hg (hsize.trans hml.symm) (argsL := As) (rest := rest) (fun sig h => hn.trans (hlen sig h)) hstack hW (by rw [hb]; exact hdg)
    (fun vm₁ hW₁ => ⟨hf.1, hf.2, hp.2 (T.setVm vm₁) hT hW₁⟩) with ⟨v, vm₁, ⟨U', l2, c2, s2⟩, hW₁, X', ⟨g', mk, t, L, e1, e2, hq, h1, hL, h2, h3⟩, st⟩ | ⟨q, vm₁, ⟨U', l2, c2, s2⟩, hW₁, X', ⟨g', mk, t, L, E, ce, e1, e2, hq, hce, hcv, hcl, h1, hL, h2, h3⟩, st⟩
  · dsimp only [Pt.U, Pt.locs, Pt.cells, Pt.slots] at X' e1 e2 h1 h2 h3 st
    subst h1; subst h2; subst h3
    exact Or.inl ⟨v, (T.setVm vm₁).calling g' mk As.toArray, t, U', L, hT, X', hL, e1, e2, hq, st⟩
  · dsimp only [Pt.U, Pt.locs, Pt.cells, Pt.slots] at X' e1 e2 h1 h2 h3 st hcl
    subst h1; subst h2; subst h3
    exact Or.inr ⟨q, (T.setVm vm₁).calling g' mk As.toArray, t, U', L, E, ce, hT, X', hL, e1, e2, hq, hce, hcv, vx_cls hW₁ hcl, st⟩
end Runs
section Rows
variable {p : Program} {l : Launch} {e : Env} {R : Room} {s : State} {m : MethodId} {args : Array Value} {below : List Frame} {meth : Method} {c : Code} {H : Heap} {locs : List Loc} {cells slots : Nat} {Q : State → Prop}
variable {mc ms : Nat} {free : Addr → Prop} {A0 A1 : Nat → Prop} {H0 : Heap} {a : Array Value} {pc : Nat} {ls : Array Slot} {st0 rest : List Value}
theorem vx_keep {st₀ t T' : State} {L : List Loc} (h0 : st₀.heap = H) (e1 : T'.heap = t.heap) (hS : va_S A0 H0 H locs) (hA : ∀ q, q < H.size → A1 q → A0 q) (hf : ∀ q, free q → A0 q) (hL : ∀ q ∈ L, free q.base) (hF : va_F A1 st₀ t) :
    H.size ≤ T'.heap.size ∧ (∀ q : Nat, q < H.size → ¬ A1 q → T'.heap[q]? = H[q]?) ∧ va_S A0 H0 T'.heap (locs ++ L) := by
  obtain ⟨hz, hk⟩ := hF
  rw [h0] at hz hk
  exact ⟨by rw [e1]; exact hz, fun q h1 h2 => by rw [e1]; exact hk q h1 h2,
    ⟨Nat.le_trans hS.1 (by rw [e1]; exact hz), fun q h1 h2 => by rw [e1, hk q (Nat.lt_of_lt_of_le h1 hS.1) (fun z => h2 (hA q (Nat.lt_of_lt_of_le h1 hS.1) z))]; exact hS.2.1 q h1 h2, fun q hq => by
      rcases List.mem_append.mp hq with h | h
      · exact hS.2.2 q h
      · exact hf _ (hL q h)⟩⟩
theorem vx_calli {S SX : Type} {post : Int32 → S → Prop} {px : SX → Prop} {B : S → State → Prop} {BX : String → SX → State → Prop} {AX : Nat → Prop} (hr : vx_Run p l e R s m args below meth c H locs cells slots mc ms (F0 m pc ls st0) rest (va_Qi post B A1 a) (vx_X px BX AX) free) (hS : va_S A0 H0 H locs) (hA : ∀ q, q < H.size → A1 q → A0 q) (hf : ∀ q, free q → A0 q) (hAX : ∀ q, q < H.size → AX q → A0 q)
    (kx : ∀ (E : String) (ce : Cell) (q9 : Addr) (u : SX) (t : State) (H1 : Heap) (locs1 : List Loc), t.heap = H1 → s.vm.Alike t.vm → px u → BX E u t → H.size ≤ H1.size → (∀ q : Nat, q < H.size → ¬ AX q → H1[q]? = H[q]?) → va_S A0 H0 H1 locs1 → H1[q9]? = some ce → ce.vm = .none → s.vm.findClass E = some ce.cls → vx_W p l e R s m args below meth c H1 locs1 (cells + mc) (slots + ms) Q (F0 m pc ls rest) q9)
    (kk : ∀ (r : Int32) (u : S) (t : State) (H1 : Heap) (locs1 : List Loc), t.heap = H1 → s.vm.Alike t.vm → post r u → B u t → H.size ≤ H1.size → (∀ q : Nat, q < H.size → ¬ A1 q → H1[q]? = H[q]?) → va_S A0 H0 H1 locs1 → W p l e R s m args below meth c H1 locs1 (cells + mc) (slots + ms) Q (F0 m (pc + 3) ls (.int r :: rest))) : W p l e R s m args below meth c H locs cells slots Q (F0 m pc ls st0) := by
  intro T hT X
  rcases hr T hT X with ⟨v, st₀, t, T', L, h0, X', hL, e1, e2, ⟨⟨r, u, hv, hp, hb⟩, hF⟩, st⟩ | ⟨q, st₀, t, T', L, E, ce, h0, X', hL, e1, e2, ⟨u, hp, hb, hF⟩, hce, hcv, hcl, st⟩
  · cases hv
    obtain ⟨k1, k2, k3⟩ := vx_keep h0 e1 hS hA hf hL hF
    obtain ⟨t2, a1, b1⟩ := kk r u t T'.heap (locs ++ L) e1.symm (by rw [← e2]; exact X'.warmed.alike) hp hb k1 k2 k3 T' rfl X'
    exact ⟨t2, st t2 a1, b1⟩
  · obtain ⟨k1, k2, k3⟩ := vx_keep h0 e1 hS hAX hf hL hF
    obtain ⟨t2, a1, b1⟩ := kx E ce q u t T'.heap (locs ++ L) e1.symm (by rw [← e2]; exact X'.warmed.alike) hp hb k1 k2 k3 (by rw [e1]; exact hce) hcv hcl T' rfl X'
    exact ⟨t2, st.trans a1, b1⟩
theorem vx_calll {S SX : Type} {post : Int64 → S → Prop} {px : SX → Prop} {B : S → State → Prop} {BX : String → SX → State → Prop} {AX : Nat → Prop} (hr : vx_Run p l e R s m args below meth c H locs cells slots mc ms (F0 m pc ls st0) rest (va_Ql post B A1 a) (vx_X px BX AX) free) (hS : va_S A0 H0 H locs) (hA : ∀ q, q < H.size → A1 q → A0 q) (hf : ∀ q, free q → A0 q) (hAX : ∀ q, q < H.size → AX q → A0 q)
    (kx : ∀ (E : String) (ce : Cell) (q9 : Addr) (u : SX) (t : State) (H1 : Heap) (locs1 : List Loc), t.heap = H1 → s.vm.Alike t.vm → px u → BX E u t → H.size ≤ H1.size → (∀ q : Nat, q < H.size → ¬ AX q → H1[q]? = H[q]?) → va_S A0 H0 H1 locs1 → H1[q9]? = some ce → ce.vm = .none → s.vm.findClass E = some ce.cls → vx_W p l e R s m args below meth c H1 locs1 (cells + mc) (slots + ms) Q (F0 m pc ls rest) q9)
    (kk : ∀ (r : Int64) (u : S) (t : State) (H1 : Heap) (locs1 : List Loc), t.heap = H1 → s.vm.Alike t.vm → post r u → B u t → H.size ≤ H1.size → (∀ q : Nat, q < H.size → ¬ A1 q → H1[q]? = H[q]?) → va_S A0 H0 H1 locs1 → W p l e R s m args below meth c H1 locs1 (cells + mc) (slots + ms) Q (F0 m (pc + 3) ls (.long r :: rest))) : W p l e R s m args below meth c H locs cells slots Q (F0 m pc ls st0) := by
  intro T hT X
  rcases hr T hT X with ⟨v, st₀, t, T', L, h0, X', hL, e1, e2, ⟨⟨r, u, hv, hp, hb⟩, hF⟩, st⟩ | ⟨q, st₀, t, T', L, E, ce, h0, X', hL, e1, e2, ⟨u, hp, hb, hF⟩, hce, hcv, hcl, st⟩
  · cases hv
    obtain ⟨k1, k2, k3⟩ := vx_keep h0 e1 hS hA hf hL hF
    obtain ⟨t2, a1, b1⟩ := kk r u t T'.heap (locs ++ L) e1.symm (by rw [← e2]; exact X'.warmed.alike) hp hb k1 k2 k3 T' rfl X'
    exact ⟨t2, st t2 a1, b1⟩
  · obtain ⟨k1, k2, k3⟩ := vx_keep h0 e1 hS hAX hf hL hF
    obtain ⟨t2, a1, b1⟩ := kx E ce q u t T'.heap (locs ++ L) e1.symm (by rw [← e2]; exact X'.warmed.alike) hp hb k1 k2 k3 (by rw [e1]; exact hce) hcv hcl T' rfl X'
    exact ⟨t2, st.trans a1, b1⟩
theorem vx_callf {S SX : Type} {post : UInt32 → S → Prop} {px : SX → Prop} {B : S → State → Prop} {BX : String → SX → State → Prop} {AX : Nat → Prop} (hr : vx_Run p l e R s m args below meth c H locs cells slots mc ms (F0 m pc ls st0) rest (va_Qf post B A1 a) (vx_X px BX AX) free) (hS : va_S A0 H0 H locs) (hA : ∀ q, q < H.size → A1 q → A0 q) (hf : ∀ q, free q → A0 q) (hAX : ∀ q, q < H.size → AX q → A0 q)
    (kx : ∀ (E : String) (ce : Cell) (q9 : Addr) (u : SX) (t : State) (H1 : Heap) (locs1 : List Loc), t.heap = H1 → s.vm.Alike t.vm → px u → BX E u t → H.size ≤ H1.size → (∀ q : Nat, q < H.size → ¬ AX q → H1[q]? = H[q]?) → va_S A0 H0 H1 locs1 → H1[q9]? = some ce → ce.vm = .none → s.vm.findClass E = some ce.cls → vx_W p l e R s m args below meth c H1 locs1 (cells + mc) (slots + ms) Q (F0 m pc ls rest) q9)
    (kk : ∀ (r : UInt32) (u : S) (t : State) (H1 : Heap) (locs1 : List Loc), t.heap = H1 → s.vm.Alike t.vm → post r u → B u t → H.size ≤ H1.size → (∀ q : Nat, q < H.size → ¬ A1 q → H1[q]? = H[q]?) → va_S A0 H0 H1 locs1 → W p l e R s m args below meth c H1 locs1 (cells + mc) (slots + ms) Q (F0 m (pc + 3) ls (.float r :: rest))) : W p l e R s m args below meth c H locs cells slots Q (F0 m pc ls st0) := by
  intro T hT X
  rcases hr T hT X with ⟨v, st₀, t, T', L, h0, X', hL, e1, e2, ⟨⟨r, u, hv, hp, hb⟩, hF⟩, st⟩ | ⟨q, st₀, t, T', L, E, ce, h0, X', hL, e1, e2, ⟨u, hp, hb, hF⟩, hce, hcv, hcl, st⟩
  · cases hv
    obtain ⟨k1, k2, k3⟩ := vx_keep h0 e1 hS hA hf hL hF
    obtain ⟨t2, a1, b1⟩ := kk r u t T'.heap (locs ++ L) e1.symm (by rw [← e2]; exact X'.warmed.alike) hp hb k1 k2 k3 T' rfl X'
    exact ⟨t2, st t2 a1, b1⟩
  · obtain ⟨k1, k2, k3⟩ := vx_keep h0 e1 hS hAX hf hL hF
    obtain ⟨t2, a1, b1⟩ := kx E ce q u t T'.heap (locs ++ L) e1.symm (by rw [← e2]; exact X'.warmed.alike) hp hb k1 k2 k3 (by rw [e1]; exact hce) hcv hcl T' rfl X'
    exact ⟨t2, st.trans a1, b1⟩
theorem vx_calld {S SX : Type} {post : UInt64 → S → Prop} {px : SX → Prop} {B : S → State → Prop} {BX : String → SX → State → Prop} {AX : Nat → Prop} (hr : vx_Run p l e R s m args below meth c H locs cells slots mc ms (F0 m pc ls st0) rest (va_Qd post B A1 a) (vx_X px BX AX) free) (hS : va_S A0 H0 H locs) (hA : ∀ q, q < H.size → A1 q → A0 q) (hf : ∀ q, free q → A0 q) (hAX : ∀ q, q < H.size → AX q → A0 q)
    (kx : ∀ (E : String) (ce : Cell) (q9 : Addr) (u : SX) (t : State) (H1 : Heap) (locs1 : List Loc), t.heap = H1 → s.vm.Alike t.vm → px u → BX E u t → H.size ≤ H1.size → (∀ q : Nat, q < H.size → ¬ AX q → H1[q]? = H[q]?) → va_S A0 H0 H1 locs1 → H1[q9]? = some ce → ce.vm = .none → s.vm.findClass E = some ce.cls → vx_W p l e R s m args below meth c H1 locs1 (cells + mc) (slots + ms) Q (F0 m pc ls rest) q9)
    (kk : ∀ (r : UInt64) (u : S) (t : State) (H1 : Heap) (locs1 : List Loc), t.heap = H1 → s.vm.Alike t.vm → post r u → B u t → H.size ≤ H1.size → (∀ q : Nat, q < H.size → ¬ A1 q → H1[q]? = H[q]?) → va_S A0 H0 H1 locs1 → W p l e R s m args below meth c H1 locs1 (cells + mc) (slots + ms) Q (F0 m (pc + 3) ls (.double r :: rest))) : W p l e R s m args below meth c H locs cells slots Q (F0 m pc ls st0) := by
  intro T hT X
  rcases hr T hT X with ⟨v, st₀, t, T', L, h0, X', hL, e1, e2, ⟨⟨r, u, hv, hp, hb⟩, hF⟩, st⟩ | ⟨q, st₀, t, T', L, E, ce, h0, X', hL, e1, e2, ⟨u, hp, hb, hF⟩, hce, hcv, hcl, st⟩
  · cases hv
    obtain ⟨k1, k2, k3⟩ := vx_keep h0 e1 hS hA hf hL hF
    obtain ⟨t2, a1, b1⟩ := kk r u t T'.heap (locs ++ L) e1.symm (by rw [← e2]; exact X'.warmed.alike) hp hb k1 k2 k3 T' rfl X'
    exact ⟨t2, st t2 a1, b1⟩
  · obtain ⟨k1, k2, k3⟩ := vx_keep h0 e1 hS hAX hf hL hF
    obtain ⟨t2, a1, b1⟩ := kx E ce q u t T'.heap (locs ++ L) e1.symm (by rw [← e2]; exact X'.warmed.alike) hp hb k1 k2 k3 (by rw [e1]; exact hce) hcv hcl T' rfl X'
    exact ⟨t2, st.trans a1, b1⟩
theorem vx_callv {S SX : Type} {post : S → Prop} {px : SX → Prop} {B : S → State → Prop} {BX : String → SX → State → Prop} {AX : Nat → Prop} (hr : vx_Run p l e R s m args below meth c H locs cells slots mc ms (F0 m pc ls st0) rest (va_Qv post B A1 a) (vx_X px BX AX) free) (hS : va_S A0 H0 H locs) (hA : ∀ q, q < H.size → A1 q → A0 q) (hf : ∀ q, free q → A0 q) (hAX : ∀ q, q < H.size → AX q → A0 q)
    (kx : ∀ (E : String) (ce : Cell) (q9 : Addr) (u : SX) (t : State) (H1 : Heap) (locs1 : List Loc), t.heap = H1 → s.vm.Alike t.vm → px u → BX E u t → H.size ≤ H1.size → (∀ q : Nat, q < H.size → ¬ AX q → H1[q]? = H[q]?) → va_S A0 H0 H1 locs1 → H1[q9]? = some ce → ce.vm = .none → s.vm.findClass E = some ce.cls → vx_W p l e R s m args below meth c H1 locs1 (cells + mc) (slots + ms) Q (F0 m pc ls rest) q9)
    (kk : ∀ (u : S) (t : State) (H1 : Heap) (locs1 : List Loc), t.heap = H1 → s.vm.Alike t.vm → post u → B u t → H.size ≤ H1.size → (∀ q : Nat, q < H.size → ¬ A1 q → H1[q]? = H[q]?) → va_S A0 H0 H1 locs1 → W p l e R s m args below meth c H1 locs1 (cells + mc) (slots + ms) Q (F0 m (pc + 3) ls (rest))) : W p l e R s m args below meth c H locs cells slots Q (F0 m pc ls st0) := by
  intro T hT X
  rcases hr T hT X with ⟨v, st₀, t, T', L, h0, X', hL, e1, e2, ⟨⟨u, hv, hp, hb⟩, hF⟩, st⟩ | ⟨q, st₀, t, T', L, E, ce, h0, X', hL, e1, e2, ⟨u, hp, hb, hF⟩, hce, hcv, hcl, st⟩
  · cases hv
    obtain ⟨k1, k2, k3⟩ := vx_keep h0 e1 hS hA hf hL hF
    obtain ⟨t2, a1, b1⟩ := kk u t T'.heap (locs ++ L) e1.symm (by rw [← e2]; exact X'.warmed.alike) hp hb k1 k2 k3 T' rfl X'
    exact ⟨t2, st t2 a1, b1⟩
  · obtain ⟨k1, k2, k3⟩ := vx_keep h0 e1 hS hAX hf hL hF
    obtain ⟨t2, a1, b1⟩ := kx E ce q u t T'.heap (locs ++ L) e1.symm (by rw [← e2]; exact X'.warmed.alike) hp hb k1 k2 k3 (by rw [e1]; exact hce) hcv hcl T' rfl X'
    exact ⟨t2, st.trans a1, b1⟩
/-- caught by the row x of this method's table; the rows ahead don't take it -/
theorem vx_catch {own name : String} {E : String} {ce : Cell} {q : Addr} (hown : s.vm.findClass own = some m.cls) (pre : List ExceptionTableEntry) (x : ExceptionTableEntry) (suf : List ExceptionTableEntry) (hsplit : c.exceptionTable.toList = pre ++ x :: suf)
    (hpass : ∀ z ∈ pre, covers z pc = false ∨ (z.catchType ≠ 0 ∧ ∃ nm : String, (Cond.classLink own z.catchType nm).before args s = true ∧ va_Nc E nm s)) (hx : covers x pc = true) (h0 : x.catchType ≠ 0)
    (hlink : (Cond.classLink own x.catchType name).before args s = true) (hcast : (Cond.castable E name).before args s = true) (hcell : H[q]? = some ce) (hv : ce.vm = .none) (hcl : s.vm.findClass E = some ce.cls)
    (kk : W p l e R s m args below meth c H locs cells slots Q (F0 m x.handlerPc ls [.ref q])) : vx_W p l e R s m args below meth c H locs cells slots Q (F0 m pc ls rest) q := by
  intro T hT X
  have hpl : e.platform.magicAccessors = ({} : Platform).magicAccessors := by rw [X.admits.platform]
  obtain ⟨c3, c4, hc3, hc4, hasg⟩ := Cond.castable_spec hcast
  cases Option.some.inj (hc3.symm.trans hcl)
  obtain ⟨c5, hc5, hcl5⟩ := Cond.classLink_spec hown hlink e.platform hpl
  cases Option.some.inj (hc4.symm.trans hc5)
  obtain ⟨vm', X', st⟩ := X.thenCaughtThrough q (g := F0 m pc ls rest) rfl (Steps.refl _) (by rw [hT]; exact hcell) (by rw [hv]; rfl) (by obtain ⟨k9, h9, -⟩ := Vm.findClass_spec hcl; exact ⟨k9, h9⟩) pre x suf hsplit
    (fun z hz => by
      rcases hpass z hz with h | ⟨hz0, nm, hl1, hn1⟩
      · exact Or.inl h
      · obtain ⟨c6, hc6, hcl6⟩ := Cond.classLink_spec hown hl1 e.platform hpl
        obtain ⟨a8, b8, h1, h2, h3⟩ := hn1
        cases Option.some.inj (h1.symm.trans hcl)
        cases Option.some.inj (h2.symm.trans hc6)
        exact Or.inr ⟨hz0, _, hcl6, h3⟩) hx (Or.inr ⟨h0, c4, hcl5, hasg⟩)
  obtain ⟨t, a1, b1⟩ := kk (T.setVm vm') hT X'
  exact ⟨t, st.trans a1, b1⟩
end Rows
section Ends
variable {p : Program} {l : Launch} {e : Env} {R : Room} {s : State} {m : MethodId} {args : Array Value} {below : List Frame} {meth : Method} {c : Code} {H : Heap} {locs : List Loc} {cells slots : Nat} {Q : State → Prop}
variable {mc ms : Nat} {free : Addr → Prop} {A0 A1 : Nat → Prop} {H0 : Heap} {a : Array Value} {ls : Array Slot} {st0 rest : List Value}
variable {Qc : Array Value → State → Outcome → State → Prop} {XC : String → State → State → Prop}
/-- what a body that may throw owes at its end -/
def vx_MQ (below : List Frame) (Qc : Array Value → State → Outcome → State → Prop) (XC : String → State → State → Prop) (a : Array Value) (s : State) (mc ms : Nat) (free : Addr → Prop) : State → Prop := fun t =>
  ∃ o, t.status = .running ∧ Ended t below o ∧ vx_Q Qc XC mc ms free a s o t
theorem vx_ret {g : JFrame} {mc ms : Nat} (k : W p l e R s m args below meth c H locs cells slots (MQ below Qc args s mc ms free) g) : W p l e R s m args below meth c H locs cells slots (vx_MQ below Qc XC args s mc ms free) g := by
  intro T hT X
  obtain ⟨t, a1, o, b1, b2, b3, b4⟩ := k T hT X
  exact ⟨t, a1, o, b1, b2, Or.inl ⟨b3, b4⟩⟩
/-- not caught here: it goes on to the caller -/
theorem vx_widen {g : JFrame} {q : Addr} {k n : Nat} (h1 : cells ≤ k) (h2 : slots ≤ n) (kk : vx_W p l e R s m args below meth c H locs k n Q g q) : vx_W p l e R s m args below meth c H locs cells slots Q g q := fun T hT X => kk T hT (stand_widen X h1 h2)
theorem vx_out {pc : Nat} {E : String} {ce : Cell} {q : Addr} {mc ms : Nat} (hout : ∀ x ∈ c.exceptionTable.toList, covers x pc = false) (hlocks : meth.locks = false) (hcell : H[q]? = some ce) (hv : ce.vm = .none) (hcl : s.vm.findClass E = some ce.cls)
    (hx : ∀ t : State, t.heap = H → s.vm.Alike t.vm → XC E s t) (hf : ∀ z ∈ locs, free z.base) (hc : cells ≤ mc) (hs : slots ≤ ms) :
    vx_W p l e R s m args below meth c H locs cells slots (vx_MQ below Qc XC args s mc ms free) (F0 m pc ls rest) q := by
  intro T hT X
  obtain ⟨st1, hrun, hend, hW, hsm⟩ := X.leaveThrown q (g := F0 m pc ls rest) rfl rfl rfl hout hlocks
  have hcell9 : (T.setFrames (.throwing q :: below)).heap[q]? = some ce := by
    show T.heap[q]? = some ce
    rw [hT]; exact hcell
  exact ⟨_, st1, .threw q, hrun, hend, Or.inr ⟨q, rfl, E, ce, locs, hx _ hT hW.alike, hcell9, hv, hcl, hW, hsm.mono hc hs, hf⟩⟩
theorem vx_frame {U : State} {k n : Nat} (h : s.sameButNew ({ U with vm := s.vm } : State) locs k n) : s.heap.size ≤ U.heap.size ∧ ∀ q : Nat, q < s.heap.size → (∀ z ∈ locs, z.base ≠ q) → U.heap[q]? = s.heap[q]? := by
  obtain ⟨-, h2, -, -, -, h6⟩ := h
  refine ⟨h2, fun q hq hz => ?_⟩
  obtain ⟨c9, e1, e2, e3, e4⟩ := h6 q _ (Array.getElem?_eq_getElem hq)
  have hs : c9.slots = (s.heap[q]).slots := Array.ext_getElem? fun i => e4 i fun hm => hz _ hm rfl
  have h9 : c9 = s.heap[q] := by
    rw [hs] at e2
    exact e2
  have e5 : U.heap[q]? = some c9 := e1
  rw [e5, h9, Array.getElem?_eq_getElem hq]
/-- the words of a throw but the four that speak of the heap -/
def vx_no (w : Cond) : Bool := decide (w ≠ .isRef (.static Bundle.tN "UNASSIGNED_STACK" Bundle.steD)) && decide (w ≠ .isRef (.static Bundle.tN "SUPPRESSED_SENTINEL" Bundle.listD)) && decide (w ≠ .laysStatic Bundle.tN "UNASSIGNED_STACK" Bundle.steD) && decide (w ≠ .laysStatic Bundle.tN "SUPPRESSED_SENTINEL" Bundle.listD)
def vx_at0 (own : String) (ic : Nat) (X : String) (names : List String) : List Cond := (Bundle.ownAtoms0 own ic X names).filter vx_no
def vx_atS (own : String) (ic : Nat) (X : String) (names : List String) : List Cond := (Bundle.ownAtoms own ic X names).filter vx_no
/-- a word that the tables alone decide, or a good one -/
def vx_ot (w : Cond) : Bool := w.onTables || goodWord w
theorem vx_ot_at {args a' : Array Value} {s U : State} {w : Cond} (hW : s.WarmedH U.vm) (hvm : s.vm = U.vm) (hg : vx_ot w = true) (h : w.before args s = true) : w.before a' U = true := by
  simp only [vx_ot, Bool.or_eq_true] at hg
  rcases hg with hg | hg
  · exact va_tabs hg hvm h
  · exact word_at hW (good_of_word hg) h
/-- a list's words: the good ones out of the method's own list, the others by premises of their own -/
theorem vx_hat {args : Array Value} {s : State} {L B : List Cond} (h1 : ∀ w ∈ L.filter goodWord, w.before args s = true) (h2 : ∀ w ∈ L.filter (fun w => !goodWord w), w ∈ B) (h3 : ∀ w ∈ B, w.before args s = true) : ∀ w ∈ L, w.before args s = true := by
  intro w hw
  by_cases g : goodWord w = true
  · exact h1 w (List.mem_filter.mpr ⟨hw, g⟩)
  · refine h3 w (h2 w (List.mem_filter.mpr ⟨hw, ?_⟩))
    show (!goodWord w) = true
    cases hgw : goodWord w
    · rfl
    · exact absurd hgw g
theorem vx_c {args : Array Value} {s : State} {w : Cond} {B : List Cond} (h : w.before args s = true) (t : ∀ w ∈ B, w.before args s = true) : ∀ w' ∈ w :: B, w'.before args s = true := fun w' h' => (List.mem_cons.mp h').elim (fun e => by rw [e]; exact h) (t w')
theorem vx_n {args : Array Value} {s : State} : ∀ w ∈ ([] : List Cond), w.before args s = true := fun _ h => nomatch h
theorem vx_own {args : Array Value} {s : State} {L : List Cond} (h1 : ∀ w ∈ L.filter vx_no, w.before args s = true)
    (hU : (Cond.isRef (.static Bundle.tN "UNASSIGNED_STACK" Bundle.steD)).before args s = true) (hN : (Cond.isRef (.static Bundle.tN "SUPPRESSED_SENTINEL" Bundle.listD)).before args s = true)
    (lU : (Cond.laysStatic Bundle.tN "UNASSIGNED_STACK" Bundle.steD).before args s = true) (lN : (Cond.laysStatic Bundle.tN "SUPPRESSED_SENTINEL" Bundle.listD).before args s = true) : ∀ w ∈ L, w.before args s = true := by
  intro w hw
  by_cases e1 : w = .isRef (.static Bundle.tN "UNASSIGNED_STACK" Bundle.steD)
  · rw [e1]; exact hU
  · by_cases e2 : w = .isRef (.static Bundle.tN "SUPPRESSED_SENTINEL" Bundle.listD)
    · rw [e2]; exact hN
    · by_cases e3 : w = .laysStatic Bundle.tN "UNASSIGNED_STACK" Bundle.steD
      · rw [e3]; exact lU
      · by_cases e4 : w = .laysStatic Bundle.tN "SUPPRESSED_SENTINEL" Bundle.listD
        · rw [e4]; exact lN
        · exact h1 w (List.mem_filter.mpr ⟨hw, by unfold vx_no; rw [decide_eq_true e1, decide_eq_true e2, decide_eq_true e3, decide_eq_true e4]; rfl⟩)
/-- where a static field lies, its class's statics cell in H -/
def vx_L (C n d : String) (A : Nat → Prop) (U : State) (H : Heap) : Prop := ∃ (c : ClassId) (k : Class) (i : Nat) (f : Field) (a : Nat) (cell : Cell), U.vm.findClass C = some c ∧ U.fieldFound? C n d = some (c, k, i, f) ∧ f.isStatic = true ∧ k.statics = some a ∧ H[a]? = some cell ∧ cell.vm.isStatics = true ∧ cell.cls = c ∧ f.slot < cell.slots.size ∧ k.staticTypes[f.slot]? = some f.type ∧ ¬ A a
theorem vx_L.moved {C n d : String} {A : Nat → Prop} {u U : State} {H : Heap} (hvm : u.vm.Alike U.vm) (h : vx_L C n d A u H) : vx_L C n d A U H := by
  obtain ⟨c, k, i, f, a, cell, h1, h2, h3, h4, h5, h6, h7, h8, h9, h10⟩ := h
  obtain ⟨k', hi', he⟩ := State.fieldFound?_setVm hvm h2
  exact ⟨c, k', i, f, a, cell, by rw [hvm.findClass]; exact h1, hi', h3, by rw [he]; exact h4, h5, h6, h7, h8, by rw [he]; exact h9, h10⟩
theorem vx_L.kept {C n d : String} {A : Nat → Prop} {U : State} {H H1 : Heap} (h : vx_L C n d A U H) (hq : ∀ a : Nat, a < H.size → ¬ A a → H1[a]? = H[a]?) : vx_L C n d A U H1 := by
  obtain ⟨c, k, i, f, a, cell, h1, h2, h3, h4, h5, h6, h7, h8, h9, h10⟩ := h
  exact ⟨c, k, i, f, a, cell, h1, h2, h3, h4, by rw [hq a (Array.getElem?_eq_some_iff.mp h5).1 h10]; exact h5, h6, h7, h8, h9, h10⟩
theorem vx_L.narrow {C n d : String} {A B : Nat → Prop} {U : State} {H : Heap} (h : vx_L C n d A U H) (hAB : ∀ q, B q → A q) : vx_L C n d B U H := by
  obtain ⟨c, k, i, f, a, cell, h1, h2, h3, h4, h5, h6, h7, h8, h9, h10⟩ := h
  exact ⟨c, k, i, f, a, cell, h1, h2, h3, h4, h5, h6, h7, h8, h9, fun z => h10 (hAB _ z)⟩
theorem vx_L.word {C n d : String} {A : Nat → Prop} {s : State} {args : Array Value} (h : vx_L C n d A s s.heap) : (Cond.laysStatic C n d).before args s = true := by
  obtain ⟨c, k, i, f, a, cell, h1, h2, h3, h4, h5, h6, h7, h8, h9, -⟩ := h
  show (Cond.laysStatic C n d).holds args s none s [] = true
  exact Cond.laysStatic_of h1 h2 h3 h4 h5 h6 h7 h8 h9
/-- .. and what it holds: null or some reference -/
def vx_Zq (C n d : String) (A : Nat → Prop) (U : State) (H : Heap) : Prop := va_Zq C n d A U H ∧ vx_L C n d A U H
theorem vx_Zq.moved {C n d : String} {A : Nat → Prop} {u U : State} {H : Heap} (hvm : u.vm.Alike U.vm) (h : vx_Zq C n d A u H) : vx_Zq C n d A U H := ⟨va_Zq.moved hvm h.1, vx_L.moved hvm h.2⟩
theorem vx_Zq.kept {C n d : String} {A : Nat → Prop} {U : State} {H H1 : Heap} (h : vx_Zq C n d A U H) (hq : ∀ a : Nat, a < H.size → ¬ A a → H1[a]? = H[a]?) : vx_Zq C n d A U H1 := ⟨va_Zq.kept h.1 hq, vx_L.kept h.2 hq⟩
theorem vx_Zq.narrow {C n d : String} {A B : Nat → Prop} {U : State} {H : Heap} (h : vx_Zq C n d A U H) (hAB : ∀ q, B q → A q) : vx_Zq C n d B U H := ⟨va_Zq.narrow h.1 hAB, vx_L.narrow h.2 hAB⟩
theorem vx_Zqof {args : Array Value} {s : State} {C n d : String} {A : Nat → Prop} (hl : (Cond.laysStatic C n d).before args s = true) (hini : (Cond.initialized C).before args s = true) (h : (Cond.isRef (.static C n d)).before args s = true) (hA : ∀ a : Nat, a < s.heap.size → ¬ A a) : vx_Zq C n d A s s.heap := by
  refine ⟨va_Zqof hl hini h hA, ?_⟩
  obtain ⟨c, k, i, f, a, cell, h1, h2, h3, h4, h5, h6, h7, h8, h9⟩ := Cond.laysStatic_spec hl
  exact ⟨c, k, i, f, a, cell, h1, h2, h3, h4, h5, h6, h7, h8, h9, hA a (Array.getElem?_eq_some_iff.mp h5).1⟩
theorem vx_isRef {C n d : String} {v : Value} {A : Nat → Prop} {s : State} {args : Array Value} (h : va_Z C n d v A s s.heap) (hv : v.isRef = true) : (Cond.isRef (.static C n d)).before args s = true := by
  obtain ⟨cf, kf, fi, f, a, cell, h1, h2, h3, h4, h5, h6, h7, -⟩ := h
  have he : (Term.static C n d).eval args s none [] s = some v := by
    simp [Term.eval, State.fieldNamed?, h1, h2, h4, h5, h6, h7]
  simp only [Cond.before, Cond.holds, Cond.value, he]
  cases v <;> simp_all [Value.isRef]
theorem vx_isRefq {C n d : String} {A : Nat → Prop} {s : State} {args : Array Value} (h : va_Zq C n d A s s.heap) : (Cond.isRef (.static C n d)).before args s = true := by
  rcases h with h | ⟨t, h⟩
  · exact vx_isRef h rfl
  · exact vx_isRef h rfl
/-- the same frame, seen from here: as if the method were called anew in this heap -/
theorem vx_rebase {T : State} (X : Stand p l e R s m args below meth c T locs cells slots) {R' : Room} (hf : R'.frames ≤ R.frames) (hl : R'.locals ≤ R.locals) (hc : cells + R'.cells ≤ R.cells) (hs : slots + R'.slots ≤ R.slots) :
    Stand p l e R' ((T.setVm s.vm).setFrames (.invoking m args :: below)) m args below meth c T [] 0 0 := by
  have htop : (T.setVm s.vm).topJava?.isSome := X.here.top
  have hF : ((T.setVm s.vm).setFrames (.invoking m args :: below)).frames = .invoking m args :: below := State.frames_setFrames _ (State.cur_lt_of_top htop)
  obtain ⟨g₀, hg0⟩ := Option.isSome_iff_exists.mp htop
  obtain ⟨r, hr⟩ := State.topJava?_eq_some.mp hg0
  have hl9 : e.platform.stackLimits (T.setVm s.vm).me = e.platform.stackLimits s.me := X.limits
  have hb9 : (T.setVm s.vm).me.stackBytes = s.me.stackBytes := X.bytes
  refine ⟨X.admits, X.cas, X.clock, hF, ?_, X.hears, X.method, X.code, X.here, X.tail, X.warmed, ?_, ?_, ?_⟩
  · have h := X.room
    have hU : ((T.setVm s.vm).setFrames (.invoking m args :: below)).localsInUse = s.localsInUse := by
      rw [State.localsInUse_invoking hF (meth := meth) (c := c) X.method X.code, State.localsInUse_invoking X.frames X.method X.code]
    simp only [State.hasRoom, Bool.and_eq_true, decide_eq_true_eq] at h ⊢
    obtain ⟨⟨⟨⟨h1, h2, h3, h4, h5, h6⟩, h7⟩, h8⟩, h9⟩ := h
    rw [X.frames, List.length_cons] at h2 h3
    have q1 := X.heapSize
    have q2 := X.used
    simp only [hF, hU, List.length_cons, State.stackLimits_setFrames, State.stackBytes_setFrames, hl9, hb9]
    refine ⟨⟨⟨⟨by omega, by omega, by omega, by omega, by omega, h6⟩, ?_⟩, ?_⟩, X.book⟩
    · show T.heap.size + R'.cells ≤ e.platform.maxCells
      omega
    · show T.slotsUsed + R'.slots ≤ e.platform.maxSlots
      omega
  · rw [State.stackLimits_setFrames]; rfl
  · rw [State.stackBytes_setFrames]; rfl
  · refine ⟨?_, Nat.le_refl _, Nat.le_refl _, ?_, ?_, fun a c9 h9 => ⟨c9, h9, rfl, rfl, fun _ _ => rfl⟩⟩
    · obtain ⟨t, ht, -⟩ := State.frames_cons hr
      show T.setVm s.vm = { ((T.setVm s.vm).setFrames (.invoking m args :: below)).setFrames (T.setVm s.vm).frames with heap := T.heap, slotsUsed := T.slotsUsed }
      rw [State.setFrames_setFrames, State.setFrames_self ht]
      rfl
    · show T.slotsUsed = T.slotsUsed + ((T.heap.toList.drop T.heap.size).map (·.slots.size)).sum
      rw [List.drop_eq_nil_of_le (Nat.le_of_eq Array.length_toList)]
      rfl
    · show ((T.heap.toList.drop T.heap.size).map (·.slots.size)).sum ≤ 0
      rw [List.drop_eq_nil_of_le (Nat.le_of_eq Array.length_toList)]
      exact Nat.le_refl _
/-- 'throw new E()': new; dup; invokespecial; athrow -/
theorem vx_throw0 {cc : ByteArray} {pc : Nat} (hexec : p.tables.exec = Jvm.exec) (hb : c.code = cc) (hl : l.stackTraces = false) {own cls : String} {names : List String} {ik ic mc ms : Nat} {A : Nat → Prop}
    (hown : s.vm.findClass own = some m.cls) (hcls : Bundle.fit cls = true) (hnames : ∀ n ∈ names, Bundle.fit n = true)
    (hk : (Cond.classLink own ik cls).before args s = true) (hini : (Cond.initialized cls).before args s = true) (hat : ∀ w ∈ vx_at0 own ic cls names, w.before args s = true)
    (hgood : ∀ w ∈ Cond.classLink own ik cls :: Cond.initialized cls :: vx_at0 own ic cls names, vx_ot w = true)
    (hU : vx_Zq Bundle.tN "UNASSIGNED_STACK" Bundle.steD A s s.heap) (hN : vx_Zq Bundle.tN "SUPPRESSED_SENTINEL" Bundle.listD A s s.heap) (hS : va_S A s.heap H locs) (hsize : ls.size = c.maxLocals)
    (d0 : decode cc pc = .ok (.new ik, 3)) (d3 : decode cc (pc + 3) = .ok (.dup, 1)) (d4 : decode cc (pc + 4) = .ok (.invokespecial ic, 3)) (d7 : decode cc (pc + 7) = .ok (.athrow, 1))
    (hout : ∀ x ∈ c.exceptionTable.toList, covers x (pc + 7) = false)
    (hRframes : names.length + 3 < R.frames) (hRlocals : (rest.map fun v => v.category).sum + (13 * (names.length + 1) + 42) ≤ R.locals) (hRcells : cells + 1 ≤ R.cells) (hRslots : slots + 6 ≤ R.slots) (hlocks : meth.locks = false)
    (hx : ∀ t : State, s.vm.Alike t.vm → H.size ≤ t.heap.size → (∀ q : Nat, q < H.size → t.heap[q]? = H[q]?) → XC cls s t)
    (hf : ∀ z ∈ locs, free z.base) (hc : cells + 1 ≤ mc) (hs : slots + 6 ≤ ms) :
    W p l e R s m args below meth c H locs cells slots (vx_MQ below Qc XC args s mc ms free) (F0 m pc ls rest) := by
  intro T hT X
  have htr : e.platform.stackTraces = false := (show e.platform.stackTraces = l.stackTraces by rw [X.admits.platform]).trans hl
  have Y := vx_rebase X (R' := { frames := R.frames, locals := R.locals, cells := 1, slots := 6 }) (Nat.le_refl _) (Nat.le_refl _) hRcells hRslots
  obtain ⟨s', hA⟩ : ∃ z, z = (T.setVm s.vm).setFrames (.invoking m args :: below) := ⟨_, rfl⟩
  rw [← hA] at Y
  have hvm : s'.vm = s.vm := by rw [hA]; rfl
  have hhp : s'.heap = H := by rw [hA]; exact hT
  have hW0 : s.WarmedH s'.vm := by rw [hvm]; exact State.WarmedH.refl s
  have hat' : ∀ w ∈ vx_at0 own ic cls names, w.before args s' = true := fun w hw => vx_ot_at hW0 hvm.symm (hgood w (List.mem_cons_of_mem _ (List.mem_cons_of_mem _ hw))) (hat w hw)
  have hk' : (Cond.classLink own ik cls).before args s' = true := vx_ot_at hW0 hvm.symm (hgood _ List.mem_cons_self) hk
  have hini' : (Cond.initialized cls).before args s' = true := vx_ot_at hW0 hvm.symm (hgood _ (List.mem_cons_of_mem _ List.mem_cons_self)) hini
  have hU' : vx_Zq Bundle.tN "UNASSIGNED_STACK" Bundle.steD A s' s'.heap := by rw [hhp]; exact vx_Zq.moved hW0.alike (hU.kept hS.2.1)
  have hN' : vx_Zq Bundle.tN "SUPPRESSED_SENTINEL" Bundle.listD A s' s'.heap := by rw [hhp]; exact vx_Zq.moved hW0.alike (hN.kept hS.2.1)
  have h : ∀ w ∈ Bundle.ownAtoms0 own ic cls names, w.before args s' = true := vx_own hat' (vx_isRefq hU'.1) (vx_isRefq hN'.1) hU'.2.word hN'.2.word
  have hown' : s'.vm.findClass own = some m.cls := by rw [hvm]; exact hown
  have hins : (Cond.instantiable cls 6).before args s' = true := h _ (by simp [Bundle.ownAtoms0])
  obtain ⟨vm₁, cX, kX, hfX, hkX, -, -, X₁, st1⟩ := Y.newCold hexec (own := own) (C := cls) (index := ik) (n := 6) hown' hk' hins hini'
    (g := F0 m pc ls rest) rfl (by rw [hb]; exact d0) (Nat.le_refl _) (Nat.le_refl _)
  generalize hT1 : (T.setVm vm₁).pushCell { cls := cX, slots := kX.instanceTypes.map defaultValue, vm := .none } = T1 at X₁ st1
  have hcat : (Value.ref T.heap.size).category = 1 := rfl
  have hcellA : T1.heap[T.heap.size]? = some (freshCell cX kX) := by rw [← hT1]; exact State.heap_pushCell_size _ _
  have d3' : decode c.code (pc + 3) = .ok (.dup, 1) := by rw [hb]; exact d3
  obtain ⟨U, hsteps, hrun, hend, hW, hsame, ce, hce, hO⟩ := X₁.ctorThrow0 hexec htr (own := own) (cls := cls) (names := names) (ic := ic) hown' hcls hnames h (fun x hx => nomatch hx) hfX hkX hcellA (by rw [hhp, hT]; exact Nat.le_refl _)
    (g := { method := m, pc := pc + 4, locals := ls, stack := .ref T.heap.size :: .ref T.heap.size :: rest, locked := none }) rfl hsize rfl rfl (rest := rest) rfl
    (by rw [hb]; exact d4) (by rw [hb]; exact d7) hout hRframes (by simp only [List.map_cons, List.sum_cons, hcat]; omega) hlocks
  obtain ⟨f1, f2⟩ := vx_frame hsame
  rw [hhp] at f1 f2
  have hWs : s.WarmedH U.vm := State.WarmedH.trans hW0 hW
  have hcl : s.vm.findClass cls = some ce.cls := by
    have h9 := hO.cls
    rw [hvm] at h9
    exact h9
  have hall : s.sameButNew ({ U with vm := s.vm } : State) locs mc ms := by
    subst hA
    obtain ⟨e1, e2⟩ := hsame
    rw [State.setFrames_setFrames] at e1
    have h2 : (T.setVm s.vm).sameButNew ({ U with vm := s.vm } : State) [] (0 + 1) (0 + 6) := ⟨e1, e2⟩
    have h3 := X.same.trans h2
    rw [List.append_nil] at h3
    exact h3.mono hc hs
  refine ⟨U, ?_, .threw T.heap.size, hrun, hend, Or.inr ⟨T.heap.size, rfl, cls, ce, locs, hx U hWs.alike f1 (fun q hq => f2 q hq (fun z hz => nomatch hz)), hce, hO.vm, hcl, hWs, hall, hf⟩⟩
  refine st1 _ ?_
  show Steps p.tables e below (T1.setTop { method := m, pc := pc + 3, locals := ls, stack := .ref T.heap.size :: rest, locked := none }) _
  jvm_step X₁.here [X₁.here.top, hexec, d3', Value.category]
  exact hsteps
/-- 'throw new E("text")': new; dup; ldc; invokespecial; athrow -/
theorem vx_throwS {cc : ByteArray} {pc : Nat} (hexec : p.tables.exec = Jvm.exec) (hb : c.code = cc) (hl : l.stackTraces = false) {own cls text : String} {names : List String} {ik is ic mc ms sa : Nat} {A : Nat → Prop}
    (hown : s.vm.findClass own = some m.cls) (hcls : Bundle.fit cls = true) (hnames : ∀ n ∈ names, Bundle.fit n = true)
    (hk : (Cond.classLink own ik cls).before args s = true) (hini : (Cond.initialized cls).before args s = true) (hstr : vk_R own is text sa s) (hat : ∀ w ∈ vx_atS own ic cls names, w.before args s = true)
    (hgood : ∀ w ∈ Cond.classLink own ik cls :: Cond.initialized cls :: vx_atS own ic cls names, vx_ot w = true)
    (hU : vx_Zq Bundle.tN "UNASSIGNED_STACK" Bundle.steD A s s.heap) (hN : vx_Zq Bundle.tN "SUPPRESSED_SENTINEL" Bundle.listD A s s.heap) (hS : va_S A s.heap H locs) (hsize : ls.size = c.maxLocals)
    (d0 : decode cc pc = .ok (.new ik, 3)) (d3 : decode cc (pc + 3) = .ok (.dup, 1)) (d4 : decode cc (pc + 4) = .ok (.ldc is, 2)) (d6 : decode cc (pc + 6) = .ok (.invokespecial ic, 3)) (d9 : decode cc (pc + 9) = .ok (.athrow, 1))
    (hout : ∀ x ∈ c.exceptionTable.toList, covers x (pc + 9) = false)
    (hRframes : names.length + 3 < R.frames) (hRlocals : (rest.map fun v => v.category).sum + (13 * (names.length + 1) + 43) ≤ R.locals) (hRcells : cells + 1 ≤ R.cells) (hRslots : slots + 6 ≤ R.slots) (hlocks : meth.locks = false)
    (hx : ∀ t : State, s.vm.Alike t.vm → H.size ≤ t.heap.size → (∀ q : Nat, q < H.size → t.heap[q]? = H[q]?) → XC cls s t)
    (hf : ∀ z ∈ locs, free z.base) (hc : cells + 1 ≤ mc) (hs : slots + 6 ≤ ms) :
    W p l e R s m args below meth c H locs cells slots (vx_MQ below Qc XC args s mc ms free) (F0 m pc ls rest) := by
  intro T hT X
  have htr : e.platform.stackTraces = false := (show e.platform.stackTraces = l.stackTraces by rw [X.admits.platform]).trans hl
  have Y := vx_rebase X (R' := { frames := R.frames, locals := R.locals, cells := 1, slots := 6 }) (Nat.le_refl _) (Nat.le_refl _) hRcells hRslots
  obtain ⟨s', hA⟩ : ∃ z, z = (T.setVm s.vm).setFrames (.invoking m args :: below) := ⟨_, rfl⟩
  rw [← hA] at Y
  have hvm : s'.vm = s.vm := by rw [hA]; rfl
  have hhp : s'.heap = H := by rw [hA]; exact hT
  have hW0 : s.WarmedH s'.vm := by rw [hvm]; exact State.WarmedH.refl s
  have hat' : ∀ w ∈ vx_atS own ic cls names, w.before args s' = true := fun w hw => vx_ot_at hW0 hvm.symm (hgood w (List.mem_cons_of_mem _ (List.mem_cons_of_mem _ hw))) (hat w hw)
  have hk' : (Cond.classLink own ik cls).before args s' = true := vx_ot_at hW0 hvm.symm (hgood _ List.mem_cons_self) hk
  have hini' : (Cond.initialized cls).before args s' = true := vx_ot_at hW0 hvm.symm (hgood _ (List.mem_cons_of_mem _ List.mem_cons_self)) hini
  have hU' : vx_Zq Bundle.tN "UNASSIGNED_STACK" Bundle.steD A s' s'.heap := by rw [hhp]; exact vx_Zq.moved hW0.alike (hU.kept hS.2.1)
  have hN' : vx_Zq Bundle.tN "SUPPRESSED_SENTINEL" Bundle.listD A s' s'.heap := by rw [hhp]; exact vx_Zq.moved hW0.alike (hN.kept hS.2.1)
  have h : ∀ w ∈ Bundle.ownAtoms own ic cls names, w.before args s' = true := vx_own hat' (vx_isRefq hU'.1) (vx_isRefq hN'.1) hU'.2.word hN'.2.word
  have hown' : s'.vm.findClass own = some m.cls := by rw [hvm]; exact hown
  have hins : (Cond.instantiable cls 6).before args s' = true := h _ (by simp [Bundle.ownAtoms])
  obtain ⟨vm₁, cX, kX, hfX, hkX, -, -, X₁, st1⟩ := Y.newCold hexec (own := own) (C := cls) (index := ik) (n := 6) hown' hk' hins hini'
    (g := F0 m pc ls rest) rfl (by rw [hb]; exact d0) (Nat.le_refl _) (Nat.le_refl _)
  generalize hT1 : (T.setVm vm₁).pushCell { cls := cX, slots := kX.instanceTypes.map defaultValue, vm := .none } = T1 at X₁ st1
  have hcat : (Value.ref T.heap.size).category = 1 := rfl
  have hcellA : T1.heap[T.heap.size]? = some (freshCell cX kX) := by rw [← hT1]; exact State.heap_pushCell_size _ _
  have d3' : decode c.code (pc + 3) = .ok (.dup, 1) := by rw [hb]; exact d3
  have d4' : decode c.code (pc + 4) = .ok (.ldc is, 2) := by rw [hb]; exact d4
  have hstr' : vk_R own is text sa s' := vk_R.warm hW0 hstr
  obtain ⟨U, hsteps, hrun, hend, hW, hsame, ce, hce, hO⟩ := X₁.ctorThrowS hexec htr (own := own) (cls := cls) (names := names) (ic := ic) hown' hcls hnames h (fun x hx => nomatch hx) hfX hkX hcellA (by rw [hhp, hT]; exact Nat.le_refl _) (msg := .ref sa) rfl
    (g := { method := m, pc := pc + 6, locals := ls, stack := .ref sa :: .ref T.heap.size :: .ref T.heap.size :: rest, locked := none }) rfl hsize rfl rfl (rest := rest) rfl
    (by rw [hb]; exact d6) (by rw [hb]; exact d9) hout hRframes (by simp only [List.map_cons, List.sum_cons, hcat]; omega) hlocks
  obtain ⟨f1, f2⟩ := vx_frame hsame
  rw [hhp] at f1 f2
  have hWs : s.WarmedH U.vm := State.WarmedH.trans hW0 hW
  have hcl : s.vm.findClass cls = some ce.cls := by
    have h9 := hO.cls
    rw [hvm] at h9
    exact h9
  have hall : s.sameButNew ({ U with vm := s.vm } : State) locs mc ms := by
    subst hA
    obtain ⟨e1, e2⟩ := hsame
    rw [State.setFrames_setFrames] at e1
    have h2 : (T.setVm s.vm).sameButNew ({ U with vm := s.vm } : State) [] (0 + 1) (0 + 6) := ⟨e1, e2⟩
    have h3 := X.same.trans h2
    rw [List.append_nil] at h3
    exact h3.mono hc hs
  refine ⟨U, ?_, .threw T.heap.size, hrun, hend, Or.inr ⟨T.heap.size, rfl, cls, ce, locs, hx U hWs.alike f1 (fun q hq => f2 q hq (fun z hz => nomatch hz)), hce, hO.vm, hcl, hWs, hall, hf⟩⟩
  refine st1 _ ?_
  show Steps p.tables e below (T1.setTop { method := m, pc := pc + 3, locals := ls, stack := .ref T.heap.size :: rest, locked := none }) _
  jvm_step X₁.here [X₁.here.top, hexec, d3', Value.category]
  exact X₁.ldcString hexec (own := own) (text := text) (index := is) (a := sa) hown' hstr'.1 hstr'.2
    (g := { method := m, pc := pc + 4, locals := ls, stack := .ref T.heap.size :: .ref T.heap.size :: rest, locked := none }) rfl d4' _ hsteps
/-- 'throw new E("text")', the text by a wide index -/
theorem vx_throwSW {cc : ByteArray} {pc : Nat} (hexec : p.tables.exec = Jvm.exec) (hb : c.code = cc) (hl : l.stackTraces = false) {own cls text : String} {names : List String} {ik is ic mc ms sa : Nat} {A : Nat → Prop}
    (hown : s.vm.findClass own = some m.cls) (hcls : Bundle.fit cls = true) (hnames : ∀ n ∈ names, Bundle.fit n = true)
    (hk : (Cond.classLink own ik cls).before args s = true) (hini : (Cond.initialized cls).before args s = true) (hstr : vk_R own is text sa s) (hat : ∀ w ∈ vx_atS own ic cls names, w.before args s = true)
    (hgood : ∀ w ∈ Cond.classLink own ik cls :: Cond.initialized cls :: vx_atS own ic cls names, vx_ot w = true)
    (hU : vx_Zq Bundle.tN "UNASSIGNED_STACK" Bundle.steD A s s.heap) (hN : vx_Zq Bundle.tN "SUPPRESSED_SENTINEL" Bundle.listD A s s.heap) (hS : va_S A s.heap H locs) (hsize : ls.size = c.maxLocals)
    (d0 : decode cc pc = .ok (.new ik, 3)) (d3 : decode cc (pc + 3) = .ok (.dup, 1)) (d4 : decode cc (pc + 4) = .ok (.ldc_w is, 3)) (d7 : decode cc (pc + 7) = .ok (.invokespecial ic, 3)) (d10 : decode cc (pc + 10) = .ok (.athrow, 1))
    (hout : ∀ x ∈ c.exceptionTable.toList, covers x (pc + 10) = false)
    (hRframes : names.length + 3 < R.frames) (hRlocals : (rest.map fun v => v.category).sum + (13 * (names.length + 1) + 43) ≤ R.locals) (hRcells : cells + 1 ≤ R.cells) (hRslots : slots + 6 ≤ R.slots) (hlocks : meth.locks = false)
    (hx : ∀ t : State, s.vm.Alike t.vm → H.size ≤ t.heap.size → (∀ q : Nat, q < H.size → t.heap[q]? = H[q]?) → XC cls s t)
    (hf : ∀ z ∈ locs, free z.base) (hc : cells + 1 ≤ mc) (hs : slots + 6 ≤ ms) :
    W p l e R s m args below meth c H locs cells slots (vx_MQ below Qc XC args s mc ms free) (F0 m pc ls rest) := by
  intro T hT X
  have htr : e.platform.stackTraces = false := (show e.platform.stackTraces = l.stackTraces by rw [X.admits.platform]).trans hl
  have Y := vx_rebase X (R' := { frames := R.frames, locals := R.locals, cells := 1, slots := 6 }) (Nat.le_refl _) (Nat.le_refl _) hRcells hRslots
  obtain ⟨s', hA⟩ : ∃ z, z = (T.setVm s.vm).setFrames (.invoking m args :: below) := ⟨_, rfl⟩
  rw [← hA] at Y
  have hvm : s'.vm = s.vm := by rw [hA]; rfl
  have hhp : s'.heap = H := by rw [hA]; exact hT
  have hW0 : s.WarmedH s'.vm := by rw [hvm]; exact State.WarmedH.refl s
  have hat' : ∀ w ∈ vx_atS own ic cls names, w.before args s' = true := fun w hw => vx_ot_at hW0 hvm.symm (hgood w (List.mem_cons_of_mem _ (List.mem_cons_of_mem _ hw))) (hat w hw)
  have hk' : (Cond.classLink own ik cls).before args s' = true := vx_ot_at hW0 hvm.symm (hgood _ List.mem_cons_self) hk
  have hini' : (Cond.initialized cls).before args s' = true := vx_ot_at hW0 hvm.symm (hgood _ (List.mem_cons_of_mem _ List.mem_cons_self)) hini
  have hU' : vx_Zq Bundle.tN "UNASSIGNED_STACK" Bundle.steD A s' s'.heap := by rw [hhp]; exact vx_Zq.moved hW0.alike (hU.kept hS.2.1)
  have hN' : vx_Zq Bundle.tN "SUPPRESSED_SENTINEL" Bundle.listD A s' s'.heap := by rw [hhp]; exact vx_Zq.moved hW0.alike (hN.kept hS.2.1)
  have h : ∀ w ∈ Bundle.ownAtoms own ic cls names, w.before args s' = true := vx_own hat' (vx_isRefq hU'.1) (vx_isRefq hN'.1) hU'.2.word hN'.2.word
  have hown' : s'.vm.findClass own = some m.cls := by rw [hvm]; exact hown
  have hins : (Cond.instantiable cls 6).before args s' = true := h _ (by simp [Bundle.ownAtoms])
  obtain ⟨vm₁, cX, kX, hfX, hkX, -, -, X₁, st1⟩ := Y.newCold hexec (own := own) (C := cls) (index := ik) (n := 6) hown' hk' hins hini'
    (g := F0 m pc ls rest) rfl (by rw [hb]; exact d0) (Nat.le_refl _) (Nat.le_refl _)
  generalize hT1 : (T.setVm vm₁).pushCell { cls := cX, slots := kX.instanceTypes.map defaultValue, vm := .none } = T1 at X₁ st1
  have hcat : (Value.ref T.heap.size).category = 1 := rfl
  have hcellA : T1.heap[T.heap.size]? = some (freshCell cX kX) := by rw [← hT1]; exact State.heap_pushCell_size _ _
  have d3' : decode c.code (pc + 3) = .ok (.dup, 1) := by rw [hb]; exact d3
  have d4' : decode c.code (pc + 4) = .ok (.ldc_w is, 3) := by rw [hb]; exact d4
  have hstr' : vk_R own is text sa s' := vk_R.warm hW0 hstr
  obtain ⟨U, hsteps, hrun, hend, hW, hsame, ce, hce, hO⟩ := X₁.ctorThrowS hexec htr (own := own) (cls := cls) (names := names) (ic := ic) hown' hcls hnames h (fun x hx => nomatch hx) hfX hkX hcellA (by rw [hhp, hT]; exact Nat.le_refl _) (msg := .ref sa) rfl
    (g := { method := m, pc := pc + 7, locals := ls, stack := .ref sa :: .ref T.heap.size :: .ref T.heap.size :: rest, locked := none }) rfl hsize rfl rfl (rest := rest) rfl
    (by rw [hb]; exact d7) (by rw [hb]; exact d10) hout hRframes (by simp only [List.map_cons, List.sum_cons, hcat]; omega) hlocks
  obtain ⟨f1, f2⟩ := vx_frame hsame
  rw [hhp] at f1 f2
  have hWs : s.WarmedH U.vm := State.WarmedH.trans hW0 hW
  have hcl : s.vm.findClass cls = some ce.cls := by
    have h9 := hO.cls
    rw [hvm] at h9
    exact h9
  have hall : s.sameButNew ({ U with vm := s.vm } : State) locs mc ms := by
    subst hA
    obtain ⟨e1, e2⟩ := hsame
    rw [State.setFrames_setFrames] at e1
    have h2 : (T.setVm s.vm).sameButNew ({ U with vm := s.vm } : State) [] (0 + 1) (0 + 6) := ⟨e1, e2⟩
    have h3 := X.same.trans h2
    rw [List.append_nil] at h3
    exact h3.mono hc hs
  refine ⟨U, ?_, .threw T.heap.size, hrun, hend, Or.inr ⟨T.heap.size, rfl, cls, ce, locs, hx U hWs.alike f1 (fun q hq => f2 q hq (fun z hz => nomatch hz)), hce, hO.vm, hcl, hWs, hall, hf⟩⟩
  refine st1 _ ?_
  show Steps p.tables e below (T1.setTop { method := m, pc := pc + 3, locals := ls, stack := .ref T.heap.size :: rest, locked := none }) _
  jvm_step X₁.here [X₁.here.top, hexec, d3', Value.category]
  exact X₁.ldcStringW hexec (own := own) (text := text) (index := is) (a := sa) hown' hstr'.1 hstr'.2
    (g := { method := m, pc := pc + 4, locals := ls, stack := .ref T.heap.size :: .ref T.heap.size :: rest, locked := none }) rfl d4' _ hsteps
end Ends
section Bodies
variable {l : Launch}
theorem vx_ofW {y : MethodName} {ws ws' : List Cond} {rm : Room} {Pc : Array Value → State → Prop} {Qc : Array Value → State → Outcome → State → Prop} {XC : String → State → State → Prop} {mc ms : Nat} {free : Addr → Prop} {cc : ByteArray} {maxL : Nat} {ret : Option FieldType}
    (hy : plainName y.cls = true) (hw : ws = Cond.code y cc maxL ret :: ws')
    (body : ∀ p e s m args below meth c s₁, BodyLoose p l y (headSpec ws rm) cc maxL ret e s m args below meth c s₁ → c.maxLocals = maxL → (∀ x ∈ c.exceptionTable.toList, False) → Pc args s →
      W p l e (headSpec ws rm).room s m args below meth c s.heap [] 0 0 (vx_MQ below Qc XC args s mc ms free) (entryFrame m args maxL)) : vx_Met l y ws rm Pc Qc XC mc ms free := by
  refine MetFree.of_bodyS (code := cc) (maxLocals := maxL) (ret := ret) hy ?_ ?_
  · intro args s m h hn
    obtain ⟨meth, c, h1, h2, h3, h4, h5, h6, -, -⟩ := Cond.code_spec hn (atoms_spec (ws := ws) h _ (by rw [hw]; exact List.mem_cons_self))
    exact ⟨meth, c, h1, h2, h3, h4, h5, h6⟩
  · intro p e s m args below meth c s₁ B hml hP _
    have hh0 : s₁.heap = s.heap := by rw [B.state]; rfl
    have ht : ∀ x ∈ c.exceptionTable.toList, False := by
      obtain ⟨meth9, c9, h1, h2, -, -, -, -, h7, -⟩ := Cond.code_spec B.named (atoms_spec (ws := ws) B.pre _ (by rw [hw]; exact List.mem_cons_self))
      cases Option.some.inj (h1.symm.trans B.method)
      cases Option.some.inj (h2.symm.trans (Stand.of_body B).code)
      intro x hx
      rw [Array.isEmpty_iff.mp h7] at hx
      cases hx
    obtain ⟨t, a1, o, b1, b2, b3⟩ := body p e s m args below meth c s₁ B hml ht hP s₁ hh0 (Stand.of_body B)
    exact ⟨t, o, a1, b1, b2, b3⟩
/-- the table of a body with handlers -/
theorem vx_table {p : Program} {x y : MethodName} {S : Spec} {cc bytes : ByteArray} {maxL maxL' : Nat} {ret ret' : Option FieldType} {e : Env} {s s₁ : State} {m : MethodId} {args : Array Value} {below : List Frame} {meth : Method} {c : Code} {hh : List (Nat × Nat × Nat × Nat)}
    (B : BodyLoose p l y S cc maxL ret e s m args below meth c s₁) (h : (Cond.codeWith y bytes maxL' ret' hh).before args s = true) : c.exceptionTable.toList = tableOf hh := by
  obtain ⟨m9, meth9, c9, hn9, h1, h2, -, -, h6, -⟩ := Cond.codeWith_spec h
  cases Option.some.inj (hn9.symm.trans B.named)
  cases Option.some.inj (h1.symm.trans B.method)
  cases Option.some.inj (h2.symm.trans (Stand.of_body B).code)
  rw [← h6, table_eq]
end Bodies
end VXA
/-! ===== END ===== -/
/-! ===== BEGIN a static call of a method with an exception table ===== -/
section VXS
variable {p : Program} {l : Launch} {e : Env} {R : Room} {s : State} {m : MethodId} {args : Array Value} {below : List Frame} {meth : Method} {c : Code} {T : State} {H : Heap} {locs : List Loc} {cells slots : Nat}
abbrev vx_CSW (R : Room) (s : State) (args : Array Value) (own : String) (index : Nat) (y : MethodName) (bytes : ByteArray) (maxL : Nat) (ret : Option FieldType) (hh : List (Nat × Nat × Nat × Nat)) (ws : List Cond) (rm : Room) (mc ms n : Nat) : Prop :=
  (rm.cells = mc ∧ rm.slots = ms ∧ rm.frames + 1 ≤ R.frames ∧ 8 + (maxL + 11) + rm.locals ≤ R.locals ∧ (∀ w ∈ ws, ∀ (a' : Array Value) (U : State), s.WarmedH U.vm → w.before a' U = true) ∧ Cond.codeWith y bytes maxL ret hh ∈ ws) ∧
  (Cond.codeWith y bytes maxL ret hh).before args s = true ∧ (Cond.initialized y.cls).before args s = true ∧ (y.cls ≠ "java/lang/invoke/MethodHandle" ∧ y.cls ≠ "java/lang/invoke/VarHandle") ∧
  (∀ sig, parseMethodDescriptor y.desc = some sig → n = sig.parameters.length) ∧ (Cond.methodLink own index y).before args s = true ∧ (Cond.static y).before args s = true
theorem vx_cwSW {own : String} {index maxL mc ms : Nat} {y : MethodName} {bytes : ByteArray} {ret : Option FieldType} {hh : List (Nat × Nat × Nat × Nat)} {Ts ws ws' : List Cond} {rm : Room} (n : Nat) (ht : ∀ w ∈ Ts, w.before args s = true) (hT : GoodIn Ts (va_wsS own index y ws)) (hw : ws = Cond.codeWith y bytes maxL ret hh :: ws') (hrc : rm.cells = mc) (hrs : rm.slots = ms)
    (hd : y.cls ≠ "java/lang/invoke/MethodHandle" ∧ y.cls ≠ "java/lang/invoke/VarHandle" ∧ (parseMethodDescriptor y.desc).map (fun d => d.parameters.length) = some n) (hR : rm.frames + 1 ≤ R.frames ∧ 8 + (maxL + 11) + rm.locals ≤ R.locals) :
    vx_CSW R s args own index y bytes maxL ret hh ws rm mc ms n := by
  have ok : ∀ w ∈ va_wsS own index y ws, w.before args s = true := fun w h => ht w (hT w h).1
  have hG : GoodIn Ts ws := fun w h => hT w (by unfold va_wsS; exact List.mem_append_right _ h)
  have hc : Cond.codeWith y bytes maxL ret hh ∈ ws := by rw [hw]; exact List.mem_cons_self
  refine ⟨⟨hrc, hrs, hR.1, hR.2, pay_in ht hG, hc⟩, ht _ (hG _ hc).1, ok _ (by simp [va_wsS]), ⟨hd.1, hd.2.1⟩, fun sig h => ?_, ok _ (by simp [va_wsS]), ok _ (by simp [va_wsS])⟩
  have h2 := hd.2.2
  rw [h] at h2
  exact (Option.some.inj h2).symm
theorem vx_callSW (X : Stand p l e R s m args below meth c T locs cells slots) (hexec : p.tables.exec = Jvm.exec) {own : String} {index : Nat} {y : MethodName} {bytes : ByteArray} {maxL : Nat} {ret : Option FieldType} {hh : List (Nat × Nat × Nat × Nat)}
    (hown : s.vm.findClass own = some m.cls) (hlink : (Cond.methodLink own index y).before args s = true) (hstat : (Cond.static y).before args s = true) (hinit : (Cond.initialized y.cls).before args s = true)
    (hcode : (Cond.codeWith y bytes maxL ret hh).before args s = true) (hy : y.cls ≠ "java/lang/invoke/MethodHandle" ∧ y.cls ≠ "java/lang/invoke/VarHandle")
    {W9 : Nat} {Pre : Pt → Array Value → Prop} {Post : Pt → Array Value → Option Value → Pt → Prop} (hK : Back l R p e below s args y 3 W9 Pre Post)
    {g : JFrame} (hg : g.method = m) (hsize : g.locals.size = c.maxLocals) {argsL rest : List Value} (hlen : ∀ sig, parseMethodDescriptor y.desc = some sig → argsL.length = sig.parameters.length)
    (hstack : g.stack = argsL.reverse ++ rest) (hW : 2 * g.monitorRoom + (rest.map fun v => v.category).sum ≤ W9) (hdg : decode c.code g.pc = .ok (.invokestatic index, 3))
    (hpre : ∀ vm₁, s.WarmedH vm₁ → Pre ⟨T.setVm vm₁, locs, cells, slots⟩ argsL.toArray) :
    ∃ (v : Option Value) (vm₁ : Vm) (B : Pt), s.WarmedH vm₁ ∧ Stand p l e R s m args below meth c B.U B.locs B.cells B.slots ∧ Post ⟨T.setVm vm₁, locs, cells, slots⟩ argsL.toArray v B ∧
      ∀ target, Steps p.tables e below (B.U.setTop { g with pc := g.pc + 3, stack := v.toList ++ rest }) target → Steps p.tables e below (T.setTop g) target := by
  obtain ⟨mk, methM, cM, hnamed, hmethM, -, -, -, -, -, -, hsigM⟩ := Cond.codeWith_spec hcode
  have hstatic : methM.isStatic = true := Cond.static_spec hnamed hmethM hstat
  obtain ⟨kP, hkP, -⟩ := className_of_methodNamed hnamed
  have hinitP : kP.init = .initialized := Cond.initialized_spec (findClass_of_methodNamed hnamed) hkP hinit
  obtain ⟨vm₁, X₁, hstep₁⟩ := X.invokestatic hexec hown hlink hnamed hmethM hstatic hkP hinitP hy (g := g) hg (argsL := argsL) (rest := rest) (hlen _ hsigM) hstack hdg
  obtain ⟨v, B, X', hpost, hsteps⟩ := hK m meth c ⟨T.setVm vm₁, locs, cells, slots⟩ { g with stack := rest } (.invokestatic index) mk argsL.toArray X₁ hg hsize hdg hW (X₁.named hnamed) (hpre vm₁ X₁.warmed)
  exact ⟨v, vm₁, B, X₁.warmed, X', hpost, fun target h => hstep₁ _ fun acts => by rw [doInvoke_state]; exact hsteps.trans h⟩
theorem vx_runSW {y : MethodName} {bytes cc : ByteArray} {maxL nL mc ms n index : Nat} {ret : Option FieldType} {hh : List (Nat × Nat × Nat × Nat)} {ws : List Cond} {rm : Room} {Pc : Array Value → State → Prop} {Qc : Array Value → State → Outcome → State → Prop} {free : Addr → Prop} {Ts : List Cond} {own : String} {As rest : List Value} {g : JFrame}
    (S : CallFix p m c cc nL s args Ts own) (hM : Met l y ws rm Pc Qc mc ms free) (cw : vx_CSW R s args own index y bytes maxL ret hh ws rm mc ms n) (hp : PreS s H Pc As)
    (hg : g.method = m) (hn : As.length = n) (hsize : g.locals.size = nL) (hstack : g.stack = As.reverse ++ rest) (hW : 2 * g.monitorRoom + (rest.map fun v => v.category).sum ≤ 8) (hdg : decode cc g.pc = .ok (.invokestatic index, 3)) (hf : cells + mc ≤ R.cells ∧ slots + ms ≤ R.slots) :
    va_Run p l e R s m args below meth c H locs cells slots mc ms g rest (Qc As.toArray) (free) := by
  obtain ⟨⟨hrc, hrs, hfr, hlo, hws, hcw⟩, hcode, hini, hy, hlen, hl, hstt⟩ := cw
  have hK : Back l R p e below s args y 3 8 (PreOf R mc ms Pc) (PostOf Qc mc ms free) := va_backW (hh := hh) (bytes := bytes) (maxL := maxL) (ret := ret) hM hp.1 hrc hrs hfr hlo hws hcw (fun a' U hW => word_at hW (Or.inl (by first | rfl | simp [Cond.onTables, Cond.keeps, Cond.steady])) hini)
  obtain ⟨hx, hb, hml, ho, -⟩ := S
  intro T hT X
  obtain ⟨v, vm₁, ⟨U', l2, c2, s2⟩, hW₁, X', ⟨g', mk, t, L, e1, e2, hq, h1, hL, h2, h3⟩, st⟩ := vx_callSW X hx (hh := hh) (bytes := bytes) (maxL := maxL) (ret := ret) ho hl hstt hini hcode hy hK hg (hsize.trans hml.symm) (argsL := As) (rest := rest) (fun sig h => hn.trans (hlen sig h)) hstack hW (by rw [hb]; exact hdg)
    (fun vm₁ hW₁ => ⟨hf.1, hf.2, hp.2 (T.setVm vm₁) hT hW₁⟩)
  dsimp only [Pt.U, Pt.locs, Pt.cells, Pt.slots] at X' e1 e2 h1 h2 h3 st
  subst h1; subst h2; subst h3
  exact ⟨v, (T.setVm vm₁).calling g' mk As.toArray, t, U', L, hT, X', hL, e1, e2, hq, st⟩
/-- not caught here, past rows that name other classes: it goes on to the caller -/
theorem vx_outP {p : Program} {l : Launch} {e : Env} {R : Room} {s : State} {m : MethodId} {args : Array Value} {below : List Frame} {meth : Method} {c : Code} {H : Heap} {locs : List Loc} {cells slots : Nat} {free : Addr → Prop} {ls : Array Slot} {rest : List Value} {Qc : Array Value → State → Outcome → State → Prop} {XC : String → State → State → Prop}
    {pc : Nat} {own E : String} {ce : Cell} {q : Addr} {mc ms : Nat} (hown : s.vm.findClass own = some m.cls) (hlocks : meth.locks = false)
    (hpass : ∀ z ∈ c.exceptionTable.toList, covers z pc = false ∨ (z.catchType ≠ 0 ∧ ∃ nm : String, (Cond.classLink own z.catchType nm).before args s = true ∧ va_Nc E nm s)) (hcell : H[q]? = some ce) (hv : ce.vm = .none) (hcl : s.vm.findClass E = some ce.cls)
    (hx : ∀ t : State, t.heap = H → s.vm.Alike t.vm → XC E s t) (hf : ∀ z ∈ locs, free z.base) (hc : cells ≤ mc) (hs : slots ≤ ms) :
    vx_W p l e R s m args below meth c H locs cells slots (vx_MQ below Qc XC args s mc ms free) (F0 m pc ls rest) q := by
  intro T hT X
  have hpl : e.platform.magicAccessors = ({} : Platform).magicAccessors := by rw [X.admits.platform]
  obtain ⟨vm', hW', X', st⟩ := X.outThrough hlocks q (g := F0 m pc ls rest) rfl rfl rfl (cell := ce) (by rw [hT]; exact hcell) (by rw [hv]; rfl)
    (by obtain ⟨k9, h9, -⟩ := Vm.findClass_spec hcl; exact ⟨k9, h9⟩) (fun z hz => by
      rcases hpass z hz with h | ⟨hz0, nm, hl1, hn1⟩
      · exact Or.inl h
      · obtain ⟨c6, hc6, hcl6⟩ := Cond.classLink_spec hown hl1 e.platform hpl
        obtain ⟨a8, b8, h1, h2, h3⟩ := hn1
        cases Option.some.inj (h1.symm.trans hcl)
        cases Option.some.inj (h2.symm.trans hc6)
        exact Or.inr ⟨hz0, _, hcl6, h3⟩)
  obtain ⟨g₀, hfr⟩ := X'.frames_eq
  have hcell9 : ((T.setVm vm').setFrames (.throwing q :: below)).heap[q]? = some ce := by
    show T.heap[q]? = some ce
    rw [hT]; exact hcell
  have hend : Ended ((T.setVm vm').setFrames (.throwing q :: below)) below (.threw q) := State.frames_setFrames _ (State.cur_lt_of_frames hfr)
  refine ⟨(T.setVm vm').setFrames (.throwing q :: below), ?_, .threw q, X'.here.running, hend, Or.inr ⟨q, rfl, E, ce, locs, hx _ hT (X'.ends _).1.alike, hcell9, hv, hcl, (X'.ends _).1, (X'.ends _).2.mono hc hs, hf⟩⟩
  rw [X.pushThrowing_eq]
  exact st
/-- a thing of a world lies in the heap -/
theorem vx_lt {D : va_G} {cl : List vw_C} {ws : va_W} {H1 : Heap} (h : va_P D cl ws H1) {k : Nat} {q : Nat × va_E} (hk : ws[k]? = some q) : q.1 < H1.size := (h k q hk).lt
end VXS
/-! ===== END ===== -/
/-! ===== BEGIN methods with a table of their own: called by a name, returning or throwing ===== -/
section VXH
/-! vx_backW, vx_callVX, vx_callSX, vx_callVW, vx_runVW, vx_runVX, vx_runSX, vx_ofWH follow the same proofs as their sisters above (Free/Laws.lean, Shelf42/LK1.lean); vx_outP calls Shelf42/NT130.lean (outThrough). -/
section
variable {l : Launch} {R : Room} {p : Program} {e : Env} {below : List Frame} {s : State} {sargs : Array Value} {y : MethodName} {len W9 : Nat}
theorem vx_backW {ws : List Cond} {rm : Room} {Pc : Array Value → State → Prop} {Qc : Array Value → State → Outcome → State → Prop} {XC : String → State → State → Prop} {mc ms : Nat} {free : Addr → Prop} {bytes : ByteArray} {maxL : Nat} {ret : Option FieldType} {hh : List (Nat × Nat × Nat × Nat)}
    (hM : vx_Met l y ws rm Pc Qc XC mc ms free) (hblind : FrameBlind Pc) (hrc : rm.cells = mc) (hrs : rm.slots = ms)
    (hframes : rm.frames + 1 ≤ R.frames) (hlocals : W9 + (maxL + 11) + rm.locals ≤ R.locals)
    (hws : ∀ w ∈ ws, ∀ a' U, s.WarmedH U.vm → w.before a' U = true) (hcode : Cond.codeWith y bytes maxL ret hh ∈ ws) (hinit : ∀ a' U, s.WarmedH U.vm → (Cond.initialized y.cls).before a' U = true) :
    vx_Back l R p e below s sargs y len W9 (PreOf R mc ms Pc) (PostOf Qc mc ms free) (vx_Post XC mc ms free) := by
  intro m meth c A g ig mk a X hg hsize hdg hW hn hp
  have h1 : (headSpec ws rm).pre.before a A.U = true := atoms_intro fun w hw => hws w hw _ _ X.warmed
  have h2 : (Cond.codeWith y bytes maxL ret hh).before a A.U = true := hws _ hcode _ _ X.warmed
  have h3 : (Cond.initialized y.cls).before a A.U = true := hinit _ _ X.warmed
  have h4 : A.cells + (headSpec ws rm).room.cells ≤ R.cells := by rw [show (headSpec ws rm).room.cells = mc from hrc]; exact hp.1
  have h5 : A.slots + (headSpec ws rm).room.slots ≤ R.slots := by rw [show (headSpec ws rm).room.slots = ms from hrs]; exact hp.2.1
  have hPc : Pc a (A.U.calling g mk a) := hblind _ _ _ _ hp.2.2
  obtain ⟨U, Ls, c0, s0⟩ := A
  dsimp only [Pt.U, Pt.locs, Pt.cells, Pt.slots] at h1 h2 h3 h4 h5 X hn hPc ⊢
  obtain ⟨m9, methY, cY, hn9, hmY, hcY, -, hlY, -⟩ := Cond.codeWith_spec h2
  cases Option.some.inj (hn9.symm.trans hn)
  obtain ⟨kY, hkY, -⟩ := className_of_methodNamed hn
  have hinitY : kY.init = .initialized := Cond.initialized_spec (findClass_of_methodNamed hn) hkY h3
  have h : At U g.method c below := by rw [hg]; exact X.here
  have hlocals9 : W9 + (maxL + 11) + (headSpec ws rm).room.locals ≤ R.locals := hlocals
  have happ : (headSpec ws rm).appliesLoose y e.platform (U.calling g mk a) = true :=
    Spec.appliesLoose_calling (g := g) h hdg hn hkY hinitY
      (X.room_calling (g := g) (R' := (headSpec ws rm).room) hsize hmY hcY hframes (by rw [hlY]; omega) h4 h5) h1
  obtain ⟨mid, hmid⟩ := h.above
  have hfr : (U.setTop g).frames = (.java g :: mid) ++ below := by rw [State.frames_setTop' g h.top, hmid]; rfl
  obtain ⟨o, s₂, hsteps, -, hend, hq⟩ := Steps.callFree hM p X.admits X.cas X.clock (acts := []) hfr happ hPc trivial
  have hq' : vx_Q Qc XC mc ms free a (U.calling g mk a) o s₂ := hq
  rw [State.frames_setTop' g h.top] at hend
  obtain ⟨g₀, hg0⟩ := Option.isSome_iff_exists.mp h.top
  obtain ⟨r, hr⟩ := State.topJava?_eq_some.mp hg0
  have hr' : (({ U with heap := s₂.heap, slotsUsed := s₂.slotsUsed } : State).setVm s₂.vm).frames = .java g₀ :: r := hr
  rcases hq' with ⟨hqc, L, hfe, hL⟩ | ⟨q, rfl, E, ce, L, hx, hce, hcv, hcl, hW₂, hsm, hL⟩
  · obtain ⟨⟨v, rfl⟩, hW₂, e2, q2, q3, q4, q5, q6⟩ := id hfe
    have e3 : s₂ = ({ (U.calling g mk a).setFrames s₂.frames with heap := s₂.heap, slotsUsed := s₂.slotsUsed } : State).setVm s₂.vm := by
      have : s₂ = ({ s₂ with vm := (U.calling g mk a).vm } : State).setVm s₂.vm := rfl
      rw [e2] at this
      exact this
    obtain ⟨c₂, i₂, len₂, hc₂, hd₂, hf₂⟩ := hend
    have hW' : U.WarmedH s₂.vm := hW₂
    have hcc : c₂ = c := by
      have h1 : s₂.code? g.method = U.code? g.method := by
        rw [State.code?_eq, State.code?_eq, hW'.alike.method?]
      exact Option.some.inj (hc₂.symm.trans (h1.trans h.code))
    subst hcc
    have hlen : len₂ = len := by rw [hdg] at hd₂; cases hd₂; rfl
    subst hlen
    have hs₂ : s₂ = (({ U with heap := s₂.heap, slotsUsed := s₂.slotsUsed } : State).setVm s₂.vm).setTop { g with pc := g.pc + len₂, stack := v.toList ++ g.stack } := by
      refine e3.trans ?_
      rw [hf₂, State.calling_eq h.top, State.setFrames_setFrames, State.setTop_of_frames _ hr', hr]
      rfl
    have hsame : U.sameButNew ({ U with heap := s₂.heap, slotsUsed := s₂.slotsUsed } : State) L mc ms := by
      refine ⟨?_, q2, q3, q4, q5, q6⟩
      obtain ⟨t, ht, -⟩ := State.frames_cons hr
      show ({ U with heap := s₂.heap, slotsUsed := s₂.slotsUsed } : State) = { U.setFrames U.frames with heap := s₂.heap, slotsUsed := s₂.slotsUsed }
      rw [State.setFrames_self ht]
    subst hg
    refine Or.inl ⟨v, ⟨(({ U with heap := s₂.heap, slotsUsed := s₂.slotsUsed } : State).setVm s₂.vm), Ls ++ L, c0 + mc, s0 + ms⟩,
      ⟨X.admits, X.cas, X.clock, X.frames, X.room, X.hears, X.method, X.code, (X.here.setHeapUsed s₂.heap s₂.slotsUsed).setVm hW'.alike, X.tail, State.WarmedH.trans X.warmed hW', X.limits, X.bytes, X.same.trans (hsame.setVm s.vm)⟩,
      ⟨g, mk, s₂, L, rfl, rfl, hqc, rfl, hL, rfl, rfl⟩, ?_⟩
    show Steps p.tables e below _ ((({ U with heap := s₂.heap, slotsUsed := s₂.slotsUsed } : State).setVm s₂.vm).setTop { g with pc := g.pc + len₂, stack := v.toList ++ g.stack })
    rw [← hs₂]
    exact hsteps
  · obtain ⟨e2, q2, q3, q4, q5, q6⟩ := id hsm
    have e3 : s₂ = ({ (U.calling g mk a).setFrames s₂.frames with heap := s₂.heap, slotsUsed := s₂.slotsUsed } : State).setVm s₂.vm := by
      have : s₂ = ({ s₂ with vm := (U.calling g mk a).vm } : State).setVm s₂.vm := rfl
      rw [e2] at this
      exact this
    have hf₂ : s₂.frames = .throwing q :: .java g :: U.frames.tail := hend
    have hW' : U.WarmedH s₂.vm := hW₂
    have hs₂ : s₂ = ((({ U with heap := s₂.heap, slotsUsed := s₂.slotsUsed } : State).setVm s₂.vm).setTop g).pushFrame (.throwing q) := by
      refine e3.trans ?_
      rw [hf₂, State.calling_eq h.top, State.setFrames_setFrames, State.pushFrame, State.frames_setTop _ hr', State.setTop_of_frames _ hr', State.setFrames_setFrames, hr]
      rfl
    have hsame : U.sameButNew ({ U with heap := s₂.heap, slotsUsed := s₂.slotsUsed } : State) L mc ms := by
      refine ⟨?_, q2, q3, q4, q5, q6⟩
      obtain ⟨t, ht, -⟩ := State.frames_cons hr
      show ({ U with heap := s₂.heap, slotsUsed := s₂.slotsUsed } : State) = { U.setFrames U.frames with heap := s₂.heap, slotsUsed := s₂.slotsUsed }
      rw [State.setFrames_self ht]
    subst hg
    refine Or.inr ⟨q, ⟨(({ U with heap := s₂.heap, slotsUsed := s₂.slotsUsed } : State).setVm s₂.vm), Ls ++ L, c0 + mc, s0 + ms⟩,
      ⟨X.admits, X.cas, X.clock, X.frames, X.room, X.hears, X.method, X.code, (X.here.setHeapUsed s₂.heap s₂.slotsUsed).setVm hW'.alike, X.tail, State.WarmedH.trans X.warmed hW', X.limits, X.bytes, X.same.trans (hsame.setVm s.vm)⟩,
      ⟨g, mk, s₂, L, E, ce, rfl, rfl, hx, hce, hcv, hcl, rfl, hL, rfl, rfl⟩, ?_⟩
    show Steps p.tables e below _ (((({ U with heap := s₂.heap, slotsUsed := s₂.slotsUsed } : State).setVm s₂.vm).setTop g).pushFrame (.throwing q))
    rw [← hs₂]
    exact hsteps
end
variable {p : Program} {l : Launch} {e : Env} {R : Room} {s : State} {m : MethodId} {args : Array Value} {below : List Frame} {meth : Method} {c : Code} {T : State} {H : Heap} {locs : List Loc} {cells slots : Nat}
theorem vx_callVX (X : Stand p l e R s m args below meth c T locs cells slots) (hexec : p.tables.exec = Jvm.exec) {own C : String} {index : Nat} {y : MethodName} {bytes : ByteArray} {maxL : Nat} {ret : Option FieldType} {hh : List (Nat × Nat × Nat × Nat)}
    (hown : s.vm.findClass own = some m.cls) (hlink : (Cond.methodLink own index y).before args s = true) (hinst : (Cond.instanceMethod y).before args s = true) (hsel : (Cond.selects C y y).before args s = true)
    (hcode : (Cond.codeWith y bytes maxL ret hh).before args s = true) (hy : y.cls ≠ "java/lang/invoke/MethodHandle" ∧ y.cls ≠ "java/lang/invoke/VarHandle")
    {W9 : Nat} {Pre : Pt → Array Value → Prop} {Post : Pt → Array Value → Option Value → Pt → Prop} {PostX : Pt → Array Value → Addr → Pt → Prop} (hK : vx_Back l R p e below s args y 3 W9 Pre Post PostX)
    {b : Addr} {cellB : Cell} (hcell : T.heap[b]? = some cellB) (hobj : cellB.vm.isStatics = false) (hcls : s.vm.findClass C = some cellB.cls)
    {g : JFrame} (hg : g.method = m) (hsize : g.locals.size = c.maxLocals) {argsL rest : List Value} (hlen : ∀ sig, parseMethodDescriptor y.desc = some sig → argsL.length = sig.parameters.length)
    (hstack : g.stack = argsL.reverse ++ .ref b :: rest) (hW : 2 * g.monitorRoom + (rest.map fun v => v.category).sum ≤ W9) (hdg : decode c.code g.pc = .ok (.invokevirtual index, 3))
    (hpre : ∀ vm₁, s.WarmedH vm₁ → Pre ⟨T.setVm vm₁, locs, cells, slots⟩ (Value.ref b :: argsL).toArray) :
    (∃ (v : Option Value) (vm₁ : Vm) (B : Pt), s.WarmedH vm₁ ∧ Stand p l e R s m args below meth c B.U B.locs B.cells B.slots ∧ Post ⟨T.setVm vm₁, locs, cells, slots⟩ (Value.ref b :: argsL).toArray v B ∧
      ∀ target, Steps p.tables e below (B.U.setTop { g with pc := g.pc + 3, stack := v.toList ++ rest }) target → Steps p.tables e below (T.setTop g) target) ∨
    (∃ (q : Addr) (vm₁ : Vm) (B : Pt), s.WarmedH vm₁ ∧ Stand p l e R s m args below meth c B.U B.locs B.cells B.slots ∧ PostX ⟨T.setVm vm₁, locs, cells, slots⟩ (Value.ref b :: argsL).toArray q B ∧
      Steps p.tables e below (T.setTop g) ((B.U.setTop { g with stack := rest }).pushFrame (.throwing q))) := by
  obtain ⟨mk, methM, hnamed, hmethM, hstM, habM⟩ := Cond.instanceMethod_spec hinst
  obtain ⟨m8, methM', cM, hn8, hmethM', -, -, -, -, -, -, hsigM⟩ := Cond.codeWith_spec hcode
  cases Option.some.inj (hn8.symm.trans hnamed)
  cases hmethM.symm.trans hmethM'
  obtain ⟨c2, r2, m2, q1, q2, q3, q4, kP, hkP, hkPi⟩ := Cond.selects_spec hsel
  cases hcls.symm.trans q1
  cases (State.methodFound?_of_named hnamed hy).symm.trans q2
  cases hnamed.symm.trans q3
  have hselP : selectMethod e.platform s.vm cellB.cls mk = .method mk := by rw [Launch.admits_selectMethod X.admits]; exact q4
  obtain ⟨vm₁, X₁, hstep₁⟩ := X.invokevirtual hexec hown hlink hnamed hmethM hstM hkP hkPi hy (a := b) (cell := cellB) hcell
    (fun z h => by rw [h] at hobj; cases hobj) hselP hmethM habM hkP hkPi (g := g) hg (argsL := argsL) (rest := rest) (hlen _ hsigM) hstack hdg
  rcases hK m meth c ⟨T.setVm vm₁, locs, cells, slots⟩ { g with stack := rest } (.invokevirtual index) mk (Value.ref b :: argsL).toArray X₁ hg hsize hdg hW (X₁.named hnamed) (hpre vm₁ X₁.warmed) with ⟨v, B, X', hpost, hsteps⟩ | ⟨q, B, X', hpost, hsteps⟩
  · exact Or.inl ⟨v, vm₁, B, X₁.warmed, X', hpost, fun target h => hstep₁ _ fun acts => by rw [doInvoke_state]; exact hsteps.trans h⟩
  · exact Or.inr ⟨q, vm₁, B, X₁.warmed, X', hpost, hstep₁ _ fun acts => by rw [doInvoke_state]; exact hsteps⟩
theorem vx_callSX (X : Stand p l e R s m args below meth c T locs cells slots) (hexec : p.tables.exec = Jvm.exec) {own : String} {index : Nat} {y : MethodName} {bytes : ByteArray} {maxL : Nat} {ret : Option FieldType} {hh : List (Nat × Nat × Nat × Nat)}
    (hown : s.vm.findClass own = some m.cls) (hlink : (Cond.methodLink own index y).before args s = true) (hstat : (Cond.static y).before args s = true) (hinit : (Cond.initialized y.cls).before args s = true)
    (hcode : (Cond.codeWith y bytes maxL ret hh).before args s = true) (hy : y.cls ≠ "java/lang/invoke/MethodHandle" ∧ y.cls ≠ "java/lang/invoke/VarHandle")
    {W9 : Nat} {Pre : Pt → Array Value → Prop} {Post : Pt → Array Value → Option Value → Pt → Prop} {PostX : Pt → Array Value → Addr → Pt → Prop} (hK : vx_Back l R p e below s args y 3 W9 Pre Post PostX)
    {g : JFrame} (hg : g.method = m) (hsize : g.locals.size = c.maxLocals) {argsL rest : List Value} (hlen : ∀ sig, parseMethodDescriptor y.desc = some sig → argsL.length = sig.parameters.length)
    (hstack : g.stack = argsL.reverse ++ rest) (hW : 2 * g.monitorRoom + (rest.map fun v => v.category).sum ≤ W9) (hdg : decode c.code g.pc = .ok (.invokestatic index, 3))
    (hpre : ∀ vm₁, s.WarmedH vm₁ → Pre ⟨T.setVm vm₁, locs, cells, slots⟩ argsL.toArray) :
    (∃ (v : Option Value) (vm₁ : Vm) (B : Pt), s.WarmedH vm₁ ∧ Stand p l e R s m args below meth c B.U B.locs B.cells B.slots ∧ Post ⟨T.setVm vm₁, locs, cells, slots⟩ argsL.toArray v B ∧
      ∀ target, Steps p.tables e below (B.U.setTop { g with pc := g.pc + 3, stack := v.toList ++ rest }) target → Steps p.tables e below (T.setTop g) target) ∨
    (∃ (q : Addr) (vm₁ : Vm) (B : Pt), s.WarmedH vm₁ ∧ Stand p l e R s m args below meth c B.U B.locs B.cells B.slots ∧ PostX ⟨T.setVm vm₁, locs, cells, slots⟩ argsL.toArray q B ∧
      Steps p.tables e below (T.setTop g) ((B.U.setTop { g with stack := rest }).pushFrame (.throwing q))) := by
  obtain ⟨mk, methM, cM, hnamed, hmethM, -, -, -, -, -, -, hsigM⟩ := Cond.codeWith_spec hcode
  have hstatic : methM.isStatic = true := Cond.static_spec hnamed hmethM hstat
  obtain ⟨kP, hkP, -⟩ := className_of_methodNamed hnamed
  have hinitP : kP.init = .initialized := Cond.initialized_spec (findClass_of_methodNamed hnamed) hkP hinit
  obtain ⟨vm₁, X₁, hstep₁⟩ := X.invokestatic hexec hown hlink hnamed hmethM hstatic hkP hinitP hy (g := g) hg (argsL := argsL) (rest := rest) (hlen _ hsigM) hstack hdg
  rcases hK m meth c ⟨T.setVm vm₁, locs, cells, slots⟩ { g with stack := rest } (.invokestatic index) mk argsL.toArray X₁ hg hsize hdg hW (X₁.named hnamed) (hpre vm₁ X₁.warmed) with ⟨v, B, X', hpost, hsteps⟩ | ⟨q, B, X', hpost, hsteps⟩
  · exact Or.inl ⟨v, vm₁, B, X₁.warmed, X', hpost, fun target h => hstep₁ _ fun acts => by rw [doInvoke_state]; exact hsteps.trans h⟩
  · exact Or.inr ⟨q, vm₁, B, X₁.warmed, X', hpost, hstep₁ _ fun acts => by rw [doInvoke_state]; exact hsteps⟩
theorem vx_callVW (X : Stand p l e R s m args below meth c T locs cells slots) (hexec : p.tables.exec = Jvm.exec) {own C : String} {index : Nat} {y : MethodName} {bytes : ByteArray} {maxL : Nat} {ret : Option FieldType} {hh : List (Nat × Nat × Nat × Nat)}
    (hown : s.vm.findClass own = some m.cls) (hlink : (Cond.methodLink own index y).before args s = true) (hinst : (Cond.instanceMethod y).before args s = true) (hsel : (Cond.selects C y y).before args s = true)
    (hcode : (Cond.codeWith y bytes maxL ret hh).before args s = true) (hy : y.cls ≠ "java/lang/invoke/MethodHandle" ∧ y.cls ≠ "java/lang/invoke/VarHandle")
    {W9 : Nat} {Pre : Pt → Array Value → Prop} {Post : Pt → Array Value → Option Value → Pt → Prop} (hK : Back l R p e below s args y 3 W9 Pre Post)
    {b : Addr} {cellB : Cell} (hcell : T.heap[b]? = some cellB) (hobj : cellB.vm.isStatics = false) (hcls : s.vm.findClass C = some cellB.cls)
    {g : JFrame} (hg : g.method = m) (hsize : g.locals.size = c.maxLocals) {argsL rest : List Value} (hlen : ∀ sig, parseMethodDescriptor y.desc = some sig → argsL.length = sig.parameters.length)
    (hstack : g.stack = argsL.reverse ++ .ref b :: rest) (hW : 2 * g.monitorRoom + (rest.map fun v => v.category).sum ≤ W9) (hdg : decode c.code g.pc = .ok (.invokevirtual index, 3))
    (hpre : ∀ vm₁, s.WarmedH vm₁ → Pre ⟨T.setVm vm₁, locs, cells, slots⟩ (Value.ref b :: argsL).toArray) :
    ∃ (v : Option Value) (vm₁ : Vm) (B : Pt), s.WarmedH vm₁ ∧ Stand p l e R s m args below meth c B.U B.locs B.cells B.slots ∧ Post ⟨T.setVm vm₁, locs, cells, slots⟩ (Value.ref b :: argsL).toArray v B ∧
      ∀ target, Steps p.tables e below (B.U.setTop { g with pc := g.pc + 3, stack := v.toList ++ rest }) target → Steps p.tables e below (T.setTop g) target := by
  obtain ⟨mk, methM, hnamed, hmethM, hstM, habM⟩ := Cond.instanceMethod_spec hinst
  obtain ⟨m8, methM', cM, hn8, hmethM', -, -, -, -, -, -, hsigM⟩ := Cond.codeWith_spec hcode
  cases Option.some.inj (hn8.symm.trans hnamed)
  cases hmethM.symm.trans hmethM'
  obtain ⟨c2, r2, m2, q1, q2, q3, q4, kP, hkP, hkPi⟩ := Cond.selects_spec hsel
  cases hcls.symm.trans q1
  cases (State.methodFound?_of_named hnamed hy).symm.trans q2
  cases hnamed.symm.trans q3
  have hselP : selectMethod e.platform s.vm cellB.cls mk = .method mk := by rw [Launch.admits_selectMethod X.admits]; exact q4
  obtain ⟨vm₁, X₁, hstep₁⟩ := X.invokevirtual hexec hown hlink hnamed hmethM hstM hkP hkPi hy (a := b) (cell := cellB) hcell
    (fun z h => by rw [h] at hobj; cases hobj) hselP hmethM habM hkP hkPi (g := g) hg (argsL := argsL) (rest := rest) (hlen _ hsigM) hstack hdg
  obtain ⟨v, B, X', hpost, hsteps⟩ := hK m meth c ⟨T.setVm vm₁, locs, cells, slots⟩ { g with stack := rest } (.invokevirtual index) mk (Value.ref b :: argsL).toArray X₁ hg hsize hdg hW (X₁.named hnamed) (hpre vm₁ X₁.warmed)
  exact ⟨v, vm₁, B, X₁.warmed, X', hpost, fun target h => hstep₁ _ fun acts => by rw [doInvoke_state]; exact hsteps.trans h⟩
abbrev vx_CVW (R : Room) (s : State) (args : Array Value) (own C : String) (index : Nat) (y : MethodName) (bytes : ByteArray) (maxL : Nat) (ret : Option FieldType) (hh : List (Nat × Nat × Nat × Nat)) (ws : List Cond) (rm : Room) (mc ms n : Nat) : Prop :=
  (rm.cells = mc ∧ rm.slots = ms ∧ rm.frames + 1 ≤ R.frames ∧ 8 + (maxL + 11) + rm.locals ≤ R.locals ∧ (∀ w ∈ ws, ∀ (a' : Array Value) (U : State), s.WarmedH U.vm → w.before a' U = true) ∧ Cond.codeWith y bytes maxL ret hh ∈ ws) ∧
  (Cond.codeWith y bytes maxL ret hh).before args s = true ∧ (Cond.initialized y.cls).before args s = true ∧ (y.cls ≠ "java/lang/invoke/MethodHandle" ∧ y.cls ≠ "java/lang/invoke/VarHandle") ∧
  (∀ sig, parseMethodDescriptor y.desc = some sig → n = sig.parameters.length) ∧ (Cond.methodLink own index y).before args s = true ∧ (Cond.instanceMethod y).before args s = true ∧ (Cond.selects C y y).before args s = true
theorem vx_cwVW {own C : String} {index maxL mc ms : Nat} {y : MethodName} {bytes : ByteArray} {ret : Option FieldType} {hh : List (Nat × Nat × Nat × Nat)} {Ts ws ws' : List Cond} {rm : Room} (n : Nat) (ht : ∀ w ∈ Ts, w.before args s = true) (hT : GoodIn Ts (wsV own index C y ws)) (hw : ws = Cond.codeWith y bytes maxL ret hh :: ws') (hrc : rm.cells = mc) (hrs : rm.slots = ms)
    (hd : y.cls = C ∧ y.cls ≠ "java/lang/invoke/MethodHandle" ∧ y.cls ≠ "java/lang/invoke/VarHandle" ∧ (parseMethodDescriptor y.desc).map (fun d => d.parameters.length) = some n) (hR : rm.frames + 1 ≤ R.frames ∧ 8 + (maxL + 11) + rm.locals ≤ R.locals) :
    vx_CVW R s args own C index y bytes maxL ret hh ws rm mc ms n := by
  obtain ⟨hC, hd⟩ := hd
  subst hC
  have ok : ∀ w ∈ wsV own index y.cls y ws, w.before args s = true := fun w h => ht w (hT w h).1
  have hG : GoodIn Ts ws := fun w h => hT w (by unfold wsV; exact List.mem_append_right _ h)
  have hc : Cond.codeWith y bytes maxL ret hh ∈ ws := by rw [hw]; exact List.mem_cons_self
  refine ⟨⟨hrc, hrs, hR.1, hR.2, pay_in ht hG, hc⟩, ht _ (hG _ hc).1, ok _ (by simp [wsV]), ⟨hd.1, hd.2.1⟩, fun sig h => ?_, ok _ (by simp [wsV]), ok _ (by simp [wsV]), ok _ (by simp [wsV])⟩
  have h2 := hd.2.2
  rw [h] at h2
  exact (Option.some.inj h2).symm
theorem vx_runVW {y : MethodName} {bytes cc : ByteArray} {maxL nL mc ms n index : Nat} {ret : Option FieldType} {hh : List (Nat × Nat × Nat × Nat)} {ws : List Cond} {rm : Room} {Pc : Array Value → State → Prop} {Qc : Array Value → State → Outcome → State → Prop} {free : Addr → Prop} {Ts : List Cond} {own C : String} {b : Addr} {As rest : List Value} {g : JFrame}
    (S : CallFix p m c cc nL s args Ts own) (hM : Met l y ws rm Pc Qc mc ms free) (cw : vx_CVW R s args own C index y bytes maxL ret hh ws rm mc ms n) (hp : PreV s H C b Pc As)
    (hg : g.method = m) (hn : As.length = n) (hsize : g.locals.size = nL) (hstack : g.stack = As.reverse ++ .ref b :: rest) (hW : 2 * g.monitorRoom + (rest.map fun v => v.category).sum ≤ 8) (hdg : decode cc g.pc = .ok (.invokevirtual index, 3)) (hf : cells + mc ≤ R.cells ∧ slots + ms ≤ R.slots) :
    va_Run p l e R s m args below meth c H locs cells slots mc ms g rest (Qc (Value.ref b :: As).toArray) free := by
  obtain ⟨⟨hrc, hrs, hfr, hlo, hws, hcw⟩, hcode, hini, hy, hlen, hl, hin, hse⟩ := cw
  have hK : Back l R p e below s args y 3 8 (PreOf R mc ms Pc) (PostOf Qc mc ms free) := va_backW (hh := hh) (bytes := bytes) (maxL := maxL) (ret := ret) hM hp.1 hrc hrs hfr hlo hws hcw (fun a' U hW => word_at hW (Or.inl (by first | rfl | simp [Cond.onTables, Cond.keeps, Cond.steady])) hini)
  obtain ⟨hx, hb, hml, ho, -⟩ := S
  obtain ⟨-, ⟨cellB, hcB, hoB, hclB⟩, hPc⟩ := hp
  intro T hT X
  obtain ⟨v, vm₁, ⟨U', l2, c2, s2⟩, hW₁, X', ⟨g', mk, t, L, e1, e2, hq, h1, hL, h2, h3⟩, st⟩ := vx_callVW X hx (C := C) (hh := hh) (bytes := bytes) (maxL := maxL) (ret := ret) ho hl hin hse hcode hy hK (by rw [hT]; exact hcB) hoB hclB hg (hsize.trans hml.symm) (argsL := As) (rest := rest) (fun sig h => hn.trans (hlen sig h)) hstack hW (by rw [hb]; exact hdg)
    (fun vm₁ hW₁ => ⟨hf.1, hf.2, hPc (T.setVm vm₁) hT hW₁⟩)
  dsimp only [Pt.U, Pt.locs, Pt.cells, Pt.slots] at X' e1 e2 h1 h2 h3 st
  subst h1; subst h2; subst h3
  exact ⟨v, (T.setVm vm₁).calling g' mk (Value.ref b :: As).toArray, t, U', L, hT, X', hL, e1, e2, hq, st⟩
section
variable {y : MethodName} {bytes cc : ByteArray} {maxL nL mc ms n index : Nat} {ret : Option FieldType} {ws : List Cond} {rm : Room} {Pc : Array Value → State → Prop} {Qc : Array Value → State → Outcome → State → Prop} {XC : String → State → State → Prop} {free : Addr → Prop} {Ts : List Cond} {own C : String} {b : Addr} {As rest : List Value} {g : JFrame}
theorem vx_runVX {hh : List (Nat × Nat × Nat × Nat)} (S : CallFix p m c cc nL s args Ts own) (hM : vx_Met l y ws rm Pc Qc XC mc ms free) (cw : vx_CVW R s args own C index y bytes maxL ret hh ws rm mc ms n) (hp : PreV s H C b Pc As)
    (hg : g.method = m) (hn : As.length = n) (hsize : g.locals.size = nL) (hstack : g.stack = As.reverse ++ .ref b :: rest) (hW : 2 * g.monitorRoom + (rest.map fun v => v.category).sum ≤ 8) (hdg : decode cc g.pc = .ok (.invokevirtual index, 3)) (hf : cells + mc ≤ R.cells ∧ slots + ms ≤ R.slots) :
    vx_Run p l e R s m args below meth c H locs cells slots mc ms g rest (Qc (Value.ref b :: As).toArray) XC free := by
  obtain ⟨⟨hrc, hrs, hfr, hlo, hws, hcw⟩, hcode, hini, hy, hlen, hl, hin, hse⟩ := cw
  have hK : vx_Back l R p e below s args y 3 8 (PreOf R mc ms Pc) (PostOf Qc mc ms free) (vx_Post XC mc ms free) := vx_backW (hh := hh) (bytes := bytes) (maxL := maxL) (ret := ret) hM hp.1 hrc hrs hfr hlo hws hcw (fun a' U hW => word_at hW (Or.inl (by first | rfl | simp [Cond.onTables, Cond.keeps, Cond.steady])) hini)
  obtain ⟨hx, hb, hml, ho, -⟩ := S
  obtain ⟨-, ⟨cellB, hcB, hoB, hclB⟩, hPc⟩ := hp
  intro T hT X
  rcases vx_callVX X hx (C := C) (hh := hh) (bytes := bytes) (maxL := maxL) (ret := ret) ho hl hin hse hcode hy hK (by rw [hT]; exact hcB) hoB hclB hg (hsize.trans hml.symm) (argsL := As) (rest := rest) (fun sig h => hn.trans (hlen sig h)) hstack hW (by rw [hb]; exact hdg)
    (fun vm₁ hW₁ => ⟨hf.1, hf.2, hPc (T.setVm vm₁) hT hW₁⟩) with ⟨v, vm₁, ⟨U', l2, c2, s2⟩, hW₁, X', ⟨g', mk, t, L, e1, e2, hq, h1, hL, h2, h3⟩, st⟩ | ⟨q, vm₁, ⟨U', l2, c2, s2⟩, hW₁, X', ⟨g', mk, t, L, E, ce, e1, e2, hq, hce, hcv, hcl, h1, hL, h2, h3⟩, st⟩
  · dsimp only [Pt.U, Pt.locs, Pt.cells, Pt.slots] at X' e1 e2 h1 h2 h3 st
    subst h1; subst h2; subst h3
    exact Or.inl ⟨v, (T.setVm vm₁).calling g' mk (Value.ref b :: As).toArray, t, U', L, hT, X', hL, e1, e2, hq, st⟩
  · dsimp only [Pt.U, Pt.locs, Pt.cells, Pt.slots] at X' e1 e2 h1 h2 h3 st hcl
    subst h1; subst h2; subst h3
    exact Or.inr ⟨q, (T.setVm vm₁).calling g' mk (Value.ref b :: As).toArray, t, U', L, E, ce, hT, X', hL, e1, e2, hq, hce, hcv, vx_cls hW₁ hcl, st⟩
theorem vx_runSX {hh : List (Nat × Nat × Nat × Nat)} (S : CallFix p m c cc nL s args Ts own) (hM : vx_Met l y ws rm Pc Qc XC mc ms free) (cw : vx_CSW R s args own index y bytes maxL ret hh ws rm mc ms n) (hp : PreS s H Pc As)
    (hg : g.method = m) (hn : As.length = n) (hsize : g.locals.size = nL) (hstack : g.stack = As.reverse ++ rest) (hW : 2 * g.monitorRoom + (rest.map fun v => v.category).sum ≤ 8) (hdg : decode cc g.pc = .ok (.invokestatic index, 3)) (hf : cells + mc ≤ R.cells ∧ slots + ms ≤ R.slots) :
    vx_Run p l e R s m args below meth c H locs cells slots mc ms g rest (Qc As.toArray) XC free := by
  obtain ⟨⟨hrc, hrs, hfr, hlo, hws, hcw⟩, hcode, hini, hy, hlen, hl, hstt⟩ := cw
  have hK : vx_Back l R p e below s args y 3 8 (PreOf R mc ms Pc) (PostOf Qc mc ms free) (vx_Post XC mc ms free) := vx_backW (hh := hh) (bytes := bytes) (maxL := maxL) (ret := ret) hM hp.1 hrc hrs hfr hlo hws hcw (fun a' U hW => word_at hW (Or.inl (by first | rfl | simp [Cond.onTables, Cond.keeps, Cond.steady])) hini)
  obtain ⟨hx, hb, hml, ho, -⟩ := S
  intro T hT X
  rcases vx_callSX X hx (hh := hh) (bytes := bytes) (maxL := maxL) (ret := ret) ho hl hstt hini hcode hy hK hg (hsize.trans hml.symm) (argsL := As) (rest := rest) (fun sig h => hn.trans (hlen sig h)) hstack hW (by rw [hb]; exact hdg)
    (fun vm₁ hW₁ => ⟨hf.1, hf.2, hp.2 (T.setVm vm₁) hT hW₁⟩) with ⟨v, vm₁, ⟨U', l2, c2, s2⟩, hW₁, X', ⟨g', mk, t, L, e1, e2, hq, h1, hL, h2, h3⟩, st⟩ | ⟨q, vm₁, ⟨U', l2, c2, s2⟩, hW₁, X', ⟨g', mk, t, L, E, ce, e1, e2, hq, hce, hcv, hcl, h1, hL, h2, h3⟩, st⟩
  · dsimp only [Pt.U, Pt.locs, Pt.cells, Pt.slots] at X' e1 e2 h1 h2 h3 st
    subst h1; subst h2; subst h3
    exact Or.inl ⟨v, (T.setVm vm₁).calling g' mk As.toArray, t, U', L, hT, X', hL, e1, e2, hq, st⟩
  · dsimp only [Pt.U, Pt.locs, Pt.cells, Pt.slots] at X' e1 e2 h1 h2 h3 st hcl
    subst h1; subst h2; subst h3
    exact Or.inr ⟨q, (T.setVm vm₁).calling g' mk As.toArray, t, U', L, E, ce, hT, X', hL, e1, e2, hq, hce, hcv, vx_cls hW₁ hcl, st⟩
end
end VXH
theorem vx_ofWH {l : Launch} {y : MethodName} {ws ws' : List Cond} {rm : Room} {Pc : Array Value → State → Prop} {Qc : Array Value → State → Outcome → State → Prop} {XC : String → State → State → Prop} {mc ms : Nat} {free : Addr → Prop} {cc : ByteArray} {maxL : Nat} {ret : Option FieldType} {hh : List (Nat × Nat × Nat × Nat)}
    (hy : plainName y.cls = true) (hw : ws = Cond.codeWith y cc maxL ret hh :: ws')
    (body : ∀ p e s m args below meth c s₁, BodyLoose p l y (headSpec ws rm) cc maxL ret e s m args below meth c s₁ → c.maxLocals = maxL → Pc args s →
      W p l e (headSpec ws rm).room s m args below meth c s.heap [] 0 0 (vx_MQ below Qc XC args s mc ms free) (entryFrame m args maxL)) : vx_Met l y ws rm Pc Qc XC mc ms free := by
  refine MetFree.of_bodyS (code := cc) (maxLocals := maxL) (ret := ret) hy ?_ ?_
  · intro args s m h hn
    obtain ⟨m9, meth, c, hn9, h1, h2, h3, h4, -, h5, h6, -⟩ := Cond.codeWith_spec (atoms_spec (ws := ws) h _ (by rw [hw]; exact List.mem_cons_self))
    cases hn.symm.trans hn9
    exact ⟨meth, c, h1, h2, h3, h4, h5, h6⟩
  · intro p e s m args below meth c s₁ B hml hP _
    have hh0 : s₁.heap = s.heap := by rw [B.state]; rfl
    obtain ⟨t, a1, o, b1, b2, b3⟩ := body p e s m args below meth c s₁ B hml hP s₁ hh0 (Stand.of_body B)
    exact ⟨t, o, a1, b1, b2, b3⟩
/-! ===== END ===== -/
end
section
/-! ===== BEGIN printed: names, fields, word lists, decode rows ===== -/
def RX0 : String := "TrunkDuel$Choice"
def TX0 : u_T := fun k => match k with
  | 0 => ("TrunkDuel$Choice", "shape", "I", false)
  | 1 => ("TrunkDuel$Choice", "rotation", "I", false)
  | 2 => ("TrunkDuel$Choice", "column", "I", false)
  | 3 => ("TrunkDuel$Choice", "row", "I", false)
  | _ => ("TrunkDuel$Choice", "points", "I", false)
def tyX0 : Nat → FieldType := fun k => match k with
  | 0 => .int
  | 1 => .int
  | 2 => .int
  | 3 => .int
  | _ => .int
abbrev wsX00 : List Cond := u_ws RX0 TX0 5
theorem nmX0 : ∀ a, a < 5 → ∀ b, b < 5 → a ≠ b → (TX0 a).2.1 ≠ (TX0 b).2.1 := by decide +kernel
theorem tyX0_ok : ∀ k, k < 5 → parseFieldDescriptor (TX0 k).2.2.1 = some (tyX0 k) := by decide +kernel
abbrev cX0_init : ByteArray := prog_2_method_1_code
def yX0_init : MethodName := ⟨RX0, "<init>", "()V"⟩
abbrev cX0_search : ByteArray := prog_2_method_2_code
def yX0_search : MethodName := ⟨RX0, "search", "(LTrunkDuel$State;LTrunkDuel$Footprint;)V"⟩
abbrev cX0_searchShape : ByteArray := prog_2_method_3_code
def yX0_searchShape : MethodName := ⟨RX0, "searchShape", "(ILTrunkDuel$Trunk;LTrunkDuel$Footprint;)V"⟩
abbrev cX0_take : ByteArray := prog_2_method_4_code
def yX0_take : MethodName := ⟨RX0, "take", "(LTrunkDuel$Footprint;I)V"⟩
def RX1 : String := "TrunkDuel$Crossings"
def TX1 : u_T := fun k => match k with
  | _ => ("TrunkDuel$Crossings", "counts", "[I", true)
def tyX1 : Nat → FieldType := fun k => match k with
  | _ => .array .int
abbrev wsX10 : List Cond := u_ws RX1 TX1 1
theorem nmX1 : ∀ a, a < 1 → ∀ b, b < 1 → a ≠ b → (TX1 a).2.1 ≠ (TX1 b).2.1 := by decide +kernel
theorem tyX1_ok : ∀ k, k < 1 → parseFieldDescriptor (TX1 k).2.2.1 = some (tyX1 k) := by decide +kernel
abbrev cX1_init : ByteArray := prog_3_method_1_code
def yX1_init : MethodName := ⟨RX1, "<init>", "()V"⟩
abbrev cX1_mostFor : ByteArray := prog_3_method_2_code
def yX1_mostFor : MethodName := ⟨RX1, "mostFor", "(LTrunkDuel$Player;LTrunkDuel$Trunk;LTrunkDuel$Footprint;)I"⟩
abbrev cX1_countShape : ByteArray := prog_3_method_3_code
def yX1_countShape : MethodName := ⟨RX1, "countShape", "(ILTrunkDuel$Trunk;LTrunkDuel$Footprint;)V"⟩
abbrev cX1_countEdge : ByteArray := prog_3_method_4_code
def yX1_countEdge : MethodName := ⟨RX1, "countEdge", "(III)V"⟩
def RX2 : String := "TrunkDuel$Footprint"
def TX2 : u_T := fun k => match k with
  | 0 => ("TrunkDuel$Footprint", "shape", "I", false)
  | 1 => ("TrunkDuel$Footprint", "rotation", "I", false)
  | 2 => ("TrunkDuel$Footprint", "column", "I", false)
  | 3 => ("TrunkDuel$Footprint", "row", "I", false)
  | 4 => ("TrunkDuel$Footprint", "size", "I", false)
  | 5 => ("TrunkDuel$Footprint", "edges", "I", false)
  | 6 => ("TrunkDuel$Footprint", "right", "[I", true)
  | 7 => ("TrunkDuel$Footprint", "down", "[I", true)
  | 8 => ("TrunkDuel$Footprint", "edgeRight", "[I", true)
  | 9 => ("TrunkDuel$Footprint", "edgeDown", "[I", true)
  | _ => ("TrunkDuel$Footprint", "edgeSide", "[I", true)
def tyX2 : Nat → FieldType := fun k => match k with
  | 0 => .int
  | 1 => .int
  | 2 => .int
  | 3 => .int
  | 4 => .int
  | 5 => .int
  | 6 => .array .int
  | 7 => .array .int
  | 8 => .array .int
  | 9 => .array .int
  | _ => .array .int
abbrev wsX20 : List Cond := u_ws RX2 TX2 11
theorem nmX2 : ∀ a, a < 11 → ∀ b, b < 11 → a ≠ b → (TX2 a).2.1 ≠ (TX2 b).2.1 := by decide +kernel
theorem tyX2_ok : ∀ k, k < 11 → parseFieldDescriptor (TX2 k).2.2.1 = some (tyX2 k) := by decide +kernel
abbrev cX2_init : ByteArray := prog_4_method_1_code
def yX2_init : MethodName := ⟨RX2, "<init>", "()V"⟩
abbrev cX2_turn : ByteArray := prog_4_method_2_code
def yX2_turn : MethodName := ⟨RX2, "turn", "(II)V"⟩
abbrev cX2_moveTo : ByteArray := prog_4_method_3_code
def yX2_moveTo : MethodName := ⟨RX2, "moveTo", "(II)V"⟩
abbrev cX2_startAll : ByteArray := prog_4_method_4_code
def yX2_startAll : MethodName := ⟨RX2, "startAll", "(I)V"⟩
abbrev cX2_advance : ByteArray := prog_4_method_5_code
def yX2_advance : MethodName := ⟨RX2, "advance", "(II)Z"⟩
abbrev cX2_columnOf : ByteArray := prog_4_method_6_code
def yX2_columnOf : MethodName := ⟨RX2, "columnOf", "(I)I"⟩
abbrev cX2_rowOf : ByteArray := prog_4_method_7_code
def yX2_rowOf : MethodName := ⟨RX2, "rowOf", "(I)I"⟩
abbrev cX2_edgeColumnOf : ByteArray := prog_4_method_8_code
def yX2_edgeColumnOf : MethodName := ⟨RX2, "edgeColumnOf", "(I)I"⟩
abbrev cX2_edgeRowOf : ByteArray := prog_4_method_9_code
def yX2_edgeRowOf : MethodName := ⟨RX2, "edgeRowOf", "(I)I"⟩
abbrev cX2_sideOf : ByteArray := prog_4_method_10_code
def yX2_sideOf : MethodName := ⟨RX2, "sideOf", "(I)I"⟩
abbrev cX2_findEdges : ByteArray := prog_4_method_11_code
def yX2_findEdges : MethodName := ⟨RX2, "findEdges", "()V"⟩
def RX3 : String := "TrunkDuel$History"
def TX3 : u_T := fun k => match k with
  | 0 => ("TrunkDuel$History", "count", "I", false)
  | 1 => ("TrunkDuel$History", "oldest", "I", false)
  | _ => ("TrunkDuel$History", "states", "[LTrunkDuel$State;", true)
def tyX3 : Nat → FieldType := fun k => match k with
  | 0 => .int
  | 1 => .int
  | _ => .array (.object "TrunkDuel$State")
abbrev wsX30 : List Cond := u_ws RX3 TX3 3
theorem nmX3 : ∀ a, a < 3 → ∀ b, b < 3 → a ≠ b → (TX3 a).2.1 ≠ (TX3 b).2.1 := by decide +kernel
theorem tyX3_ok : ∀ k, k < 3 → parseFieldDescriptor (TX3 k).2.2.1 = some (tyX3 k) := by decide +kernel
abbrev cX3_init : ByteArray := prog_5_method_1_code
def yX3_init : MethodName := ⟨RX3, "<init>", "()V"⟩
abbrev cX3_remember : ByteArray := prog_5_method_2_code
def yX3_remember : MethodName := ⟨RX3, "remember", "(LTrunkDuel$State;)V"⟩
abbrev cX3_bringBack : ByteArray := prog_5_method_3_code
def yX3_bringBack : MethodName := ⟨RX3, "bringBack", "(LTrunkDuel$State;)V"⟩
def RX4 : String := "TrunkDuel$Pieces"
def TX4 : u_T := fun k => match k with
  | 0 => ("TrunkDuel$Pieces", "count", "I", false)
  | 1 => ("TrunkDuel$Pieces", "shapes", "[I", true)
  | 2 => ("TrunkDuel$Pieces", "rotations", "[I", true)
  | 3 => ("TrunkDuel$Pieces", "anchorColumns", "[I", true)
  | 4 => ("TrunkDuel$Pieces", "anchorRows", "[I", true)
  | 5 => ("TrunkDuel$Pieces", "owners", "[I", true)
  | _ => ("TrunkDuel$Pieces", "points", "[I", true)
def tyX4 : Nat → FieldType := fun k => match k with
  | 0 => .int
  | 1 => .array .int
  | 2 => .array .int
  | 3 => .array .int
  | 4 => .array .int
  | 5 => .array .int
  | _ => .array .int
abbrev wsX40 : List Cond := u_ws RX4 TX4 7
theorem nmX4 : ∀ a, a < 7 → ∀ b, b < 7 → a ≠ b → (TX4 a).2.1 ≠ (TX4 b).2.1 := by decide +kernel
theorem tyX4_ok : ∀ k, k < 7 → parseFieldDescriptor (TX4 k).2.2.1 = some (tyX4 k) := by decide +kernel
abbrev cX4_init : ByteArray := prog_6_method_1_code
def yX4_init : MethodName := ⟨RX4, "<init>", "()V"⟩
abbrev cX4_copyFrom : ByteArray := prog_6_method_2_code
def yX4_copyFrom : MethodName := ⟨RX4, "copyFrom", "(LTrunkDuel$Pieces;)V"⟩
abbrev cX4_add : ByteArray := prog_6_method_3_code
def yX4_add : MethodName := ⟨RX4, "add", "(LTrunkDuel$Footprint;II)V"⟩
abbrev cX4_has : ByteArray := prog_6_method_4_code
def yX4_has : MethodName := ⟨RX4, "has", "(I)Z"⟩
abbrev cX4_shapeOf : ByteArray := prog_6_method_5_code
def yX4_shapeOf : MethodName := ⟨RX4, "shapeOf", "(I)I"⟩
abbrev cX4_rotationOf : ByteArray := prog_6_method_6_code
def yX4_rotationOf : MethodName := ⟨RX4, "rotationOf", "(I)I"⟩
abbrev cX4_anchorColumnOf : ByteArray := prog_6_method_7_code
def yX4_anchorColumnOf : MethodName := ⟨RX4, "anchorColumnOf", "(I)I"⟩
abbrev cX4_anchorRowOf : ByteArray := prog_6_method_8_code
def yX4_anchorRowOf : MethodName := ⟨RX4, "anchorRowOf", "(I)I"⟩
abbrev cX4_ownerOf : ByteArray := prog_6_method_9_code
def yX4_ownerOf : MethodName := ⟨RX4, "ownerOf", "(I)I"⟩
abbrev cX4_pointsOf : ByteArray := prog_6_method_10_code
def yX4_pointsOf : MethodName := ⟨RX4, "pointsOf", "(I)I"⟩
def RX5 : String := "TrunkDuel$Player"
def TX5 : u_T := fun k => match k with
  | 0 => ("TrunkDuel$Player", "score", "I", false)
  | 1 => ("TrunkDuel$Player", "straps", "I", false)
  | 2 => ("TrunkDuel$Player", "nameLength", "I", false)
  | 3 => ("TrunkDuel$Player", "name", "[I", true)
  | _ => ("TrunkDuel$Player", "supplies", "[I", true)
def tyX5 : Nat → FieldType := fun k => match k with
  | 0 => .int
  | 1 => .int
  | 2 => .int
  | 3 => .array .int
  | _ => .array .int
abbrev wsX50 : List Cond := u_ws RX5 TX5 5
theorem nmX5 : ∀ a, a < 5 → ∀ b, b < 5 → a ≠ b → (TX5 a).2.1 ≠ (TX5 b).2.1 := by decide +kernel
theorem tyX5_ok : ∀ k, k < 5 → parseFieldDescriptor (TX5 k).2.2.1 = some (tyX5 k) := by decide +kernel
abbrev cX5_init : ByteArray := prog_7_method_1_code
def yX5_init : MethodName := ⟨RX5, "<init>", "()V"⟩
abbrev cX5_clear : ByteArray := prog_7_method_2_code
def yX5_clear : MethodName := ⟨RX5, "clear", "()V"⟩
abbrev cX5_copyFrom : ByteArray := prog_7_method_3_code
def yX5_copyFrom : MethodName := ⟨RX5, "copyFrom", "(LTrunkDuel$Player;)V"⟩
abbrev cX5_addLetter : ByteArray := prog_7_method_4_code
def yX5_addLetter : MethodName := ⟨RX5, "addLetter", "(I)V"⟩
abbrev cX5_hasNameOf : ByteArray := prog_7_method_6_code
def yX5_hasNameOf : MethodName := ⟨RX5, "hasNameOf", "(LTrunkDuel$Player;)Z"⟩
abbrev cX5_supplyOf : ByteArray := prog_7_method_7_code
def yX5_supplyOf : MethodName := ⟨RX5, "supplyOf", "(I)I"⟩
abbrev cX5_setSupply : ByteArray := prog_7_method_8_code
def yX5_setSupply : MethodName := ⟨RX5, "setSupply", "(II)V"⟩
def RX6 : String := "TrunkDuel$Reader"
def TX6 : u_T := fun k => match k with
  | 0 => ("TrunkDuel$Reader", "length", "I", false)
  | 1 => ("TrunkDuel$Reader", "errorCode", "I", false)
  | 2 => ("TrunkDuel$Reader", "errorOffset", "I", false)
  | 3 => ("TrunkDuel$Reader", "commands", "I", false)
  | 4 => ("TrunkDuel$Reader", "draft", "LTrunkDuel$State;", true)
  | 5 => ("TrunkDuel$Reader", "footprint", "LTrunkDuel$Footprint;", true)
  | 6 => ("TrunkDuel$Reader", "bytes", "[I", true)
  | 7 => ("TrunkDuel$Reader", "position", "I", false)
  | 8 => ("TrunkDuel$Reader", "tokenKind", "I", false)
  | 9 => ("TrunkDuel$Reader", "tokenStart", "I", false)
  | 10 => ("TrunkDuel$Reader", "number", "I", false)
  | 11 => ("TrunkDuel$Reader", "edgeColumn", "I", false)
  | 12 => ("TrunkDuel$Reader", "edgeRow", "I", false)
  | _ => ("TrunkDuel$Reader", "edgeSide", "I", false)
def tyX6 : Nat → FieldType := fun k => match k with
  | 0 => .int
  | 1 => .int
  | 2 => .int
  | 3 => .int
  | 4 => .object "TrunkDuel$State"
  | 5 => .object "TrunkDuel$Footprint"
  | 6 => .array .int
  | 7 => .int
  | 8 => .int
  | 9 => .int
  | 10 => .int
  | 11 => .int
  | 12 => .int
  | _ => .int
abbrev wsX60 : List Cond := u_ws RX6 TX6 14
theorem nmX6 : ∀ a, a < 14 → ∀ b, b < 14 → a ≠ b → (TX6 a).2.1 ≠ (TX6 b).2.1 := by decide +kernel
theorem tyX6_ok : ∀ k, k < 14 → parseFieldDescriptor (TX6 k).2.2.1 = some (tyX6 k) := by decide +kernel
abbrev cX6_init : ByteArray := prog_8_method_1_code
def yX6_init : MethodName := ⟨RX6, "<init>", "()V"⟩
abbrev cX6_hasRoom : ByteArray := prog_8_method_2_code
def yX6_hasRoom : MethodName := ⟨RX6, "hasRoom", "()Z"⟩
abbrev cX6_writeText : ByteArray := prog_8_method_3_code
def yX6_writeText : MethodName := ⟨RX6, "writeText", "(Ljava/lang/String;)V"⟩
abbrev cX6_writeFour : ByteArray := prog_8_method_4_code
def yX6_writeFour : MethodName := ⟨RX6, "writeFour", "(I)V"⟩
abbrev cX6_writeByte : ByteArray := prog_8_method_5_code
def yX6_writeByte : MethodName := ⟨RX6, "writeByte", "(I)V"⟩
abbrev cX6_startSetup : ByteArray := prog_8_method_6_code
def yX6_startSetup : MethodName := ⟨RX6, "startSetup", "()V"⟩
abbrev cX6_readSetup : ByteArray := prog_8_method_8_code
def yX6_readSetup : MethodName := ⟨RX6, "readSetup", "()Z"⟩
abbrev cX6_readCommands : ByteArray := prog_8_method_9_code
def yX6_readCommands : MethodName := ⟨RX6, "readCommands", "()Z"⟩
abbrev cX6_readSize : ByteArray := prog_8_method_10_code
def yX6_readSize : MethodName := ⟨RX6, "readSize", "()Z"⟩
abbrev cX6_readBlocks : ByteArray := prog_8_method_11_code
def yX6_readBlocks : MethodName := ⟨RX6, "readBlocks", "()Z"⟩
abbrev cX6_readFreeStraps : ByteArray := prog_8_method_12_code
def yX6_readFreeStraps : MethodName := ⟨RX6, "readFreeStraps", "()Z"⟩
abbrev cX6_readPlayer : ByteArray := prog_8_method_13_code
def yX6_readPlayer : MethodName := ⟨RX6, "readPlayer", "(I)Z"⟩
abbrev cX6_readName : ByteArray := prog_8_method_14_code
def yX6_readName : MethodName := ⟨RX6, "readName", "(I)Z"⟩
abbrev cX6_readPiece : ByteArray := prog_8_method_15_code
def yX6_readPiece : MethodName := ⟨RX6, "readPiece", "()Z"⟩
abbrev cX6_readStrap : ByteArray := prog_8_method_16_code
def yX6_readStrap : MethodName := ⟨RX6, "readStrap", "()Z"⟩
abbrev cX6_readEdge : ByteArray := prog_8_method_17_code
def yX6_readEdge : MethodName := ⟨RX6, "readEdge", "()Z"⟩
abbrev cX6_shapeOfToken : ByteArray := prog_8_method_18_code
def yX6_shapeOfToken : MethodName := ⟨RX6, "shapeOfToken", "()I"⟩
abbrev cX6_expectNumber : ByteArray := prog_8_method_19_code
def yX6_expectNumber : MethodName := ⟨RX6, "expectNumber", "(II)I"⟩
abbrev cX6_endStatement : ByteArray := prog_8_method_20_code
def yX6_endStatement : MethodName := ⟨RX6, "endStatement", "()Z"⟩
abbrev cX6_fail : ByteArray := prog_8_method_21_code
def yX6_fail : MethodName := ⟨RX6, "fail", "(I)Z"⟩
abbrev cX6_nextToken : ByteArray := prog_8_method_22_code
def yX6_nextToken : MethodName := ⟨RX6, "nextToken", "()V"⟩
abbrev cX6_endOfRun : ByteArray := prog_8_method_23_code
def yX6_endOfRun : MethodName := ⟨RX6, "endOfRun", "(II)I"⟩
abbrev cX6_valueOfToken : ByteArray := prog_8_method_24_code
def yX6_valueOfToken : MethodName := ⟨RX6, "valueOfToken", "()I"⟩
abbrev cX6_wordIs : ByteArray := prog_8_method_25_code
def yX6_wordIs : MethodName := ⟨RX6, "wordIs", "(Ljava/lang/String;)Z"⟩
abbrev cX6_byteAt : ByteArray := prog_8_method_26_code
def yX6_byteAt : MethodName := ⟨RX6, "byteAt", "(I)I"⟩
abbrev cX6_clear : ByteArray := prog_8_method_27_code
def yX6_clear : MethodName := ⟨RX6, "clear", "()V"⟩
def RX7 : String := "TrunkDuel$Regions"
def TX7 : u_T := fun k => match k with
  | 0 => ("TrunkDuel$Regions", "count", "I", false)
  | 1 => ("TrunkDuel$Regions", "labels", "[I", true)
  | 2 => ("TrunkDuel$Regions", "sizes", "[I", true)
  | 3 => ("TrunkDuel$Regions", "queue", "[I", true)
  | _ => ("TrunkDuel$Regions", "queued", "I", false)
def tyX7 : Nat → FieldType := fun k => match k with
  | 0 => .int
  | 1 => .array .int
  | 2 => .array .int
  | 3 => .array .int
  | _ => .int
abbrev wsX70 : List Cond := u_ws RX7 TX7 5
theorem nmX7 : ∀ a, a < 5 → ∀ b, b < 5 → a ≠ b → (TX7 a).2.1 ≠ (TX7 b).2.1 := by decide +kernel
theorem tyX7_ok : ∀ k, k < 5 → parseFieldDescriptor (TX7 k).2.2.1 = some (tyX7 k) := by decide +kernel
abbrev cX7_init : ByteArray := prog_9_method_1_code
def yX7_init : MethodName := ⟨RX7, "<init>", "()V"⟩
abbrev cX7_survey : ByteArray := prog_9_method_2_code
def yX7_survey : MethodName := ⟨RX7, "survey", "(LTrunkDuel$Trunk;)V"⟩
abbrev cX7_sizeOf : ByteArray := prog_9_method_3_code
def yX7_sizeOf : MethodName := ⟨RX7, "sizeOf", "(I)I"⟩
abbrev cX7_sizeAt : ByteArray := prog_9_method_4_code
def yX7_sizeAt : MethodName := ⟨RX7, "sizeAt", "(II)I"⟩
abbrev cX7_spreadFrom : ByteArray := prog_9_method_5_code
def yX7_spreadFrom : MethodName := ⟨RX7, "spreadFrom", "(IILTrunkDuel$Trunk;)V"⟩
abbrev cX7_reach : ByteArray := prog_9_method_6_code
def yX7_reach : MethodName := ⟨RX7, "reach", "(IILTrunkDuel$Trunk;)V"⟩
def RX8 : String := "TrunkDuel$State"
def TX8 : u_T := fun k => match k with
  | 0 => ("TrunkDuel$State", "trunk", "LTrunkDuel$Trunk;", true)
  | 1 => ("TrunkDuel$State", "pieces", "LTrunkDuel$Pieces;", true)
  | 2 => ("TrunkDuel$State", "first", "LTrunkDuel$Player;", true)
  | 3 => ("TrunkDuel$State", "second", "LTrunkDuel$Player;", true)
  | 4 => ("TrunkDuel$State", "mover", "I", false)
  | _ => ("TrunkDuel$State", "passes", "I", false)
def tyX8 : Nat → FieldType := fun k => match k with
  | 0 => .object "TrunkDuel$Trunk"
  | 1 => .object "TrunkDuel$Pieces"
  | 2 => .object "TrunkDuel$Player"
  | 3 => .object "TrunkDuel$Player"
  | 4 => .int
  | _ => .int
abbrev wsX80 : List Cond := u_ws RX8 TX8 6
theorem nmX8 : ∀ a, a < 6 → ∀ b, b < 6 → a ≠ b → (TX8 a).2.1 ≠ (TX8 b).2.1 := by decide +kernel
theorem tyX8_ok : ∀ k, k < 6 → parseFieldDescriptor (TX8 k).2.2.1 = some (tyX8 k) := by decide +kernel
abbrev cX8_init : ByteArray := prog_10_method_1_code
def yX8_init : MethodName := ⟨RX8, "<init>", "()V"⟩
abbrev cX8_clear : ByteArray := prog_10_method_2_code
def yX8_clear : MethodName := ⟨RX8, "clear", "(II)V"⟩
abbrev cX8_copyFrom : ByteArray := prog_10_method_3_code
def yX8_copyFrom : MethodName := ⟨RX8, "copyFrom", "(LTrunkDuel$State;)V"⟩
abbrev cX8_isFinished : ByteArray := prog_10_method_4_code
def yX8_isFinished : MethodName := ⟨RX8, "isFinished", "()Z"⟩
abbrev cX8_playerOf : ByteArray := prog_10_method_5_code
def yX8_playerOf : MethodName := ⟨RX8, "playerOf", "(I)LTrunkDuel$Player;"⟩
abbrev cX8_allowsPiece : ByteArray := prog_10_method_6_code
def yX8_allowsPiece : MethodName := ⟨RX8, "allowsPiece", "(LTrunkDuel$Footprint;)Z"⟩
abbrev cX8_putPiece : ByteArray := prog_10_method_7_code
def yX8_putPiece : MethodName := ⟨RX8, "putPiece", "(LTrunkDuel$Footprint;)I"⟩
abbrev cX8_allowsStrap : ByteArray := prog_10_method_8_code
def yX8_allowsStrap : MethodName := ⟨RX8, "allowsStrap", "(III)Z"⟩
abbrev cX8_putStrap : ByteArray := prog_10_method_9_code
def yX8_putStrap : MethodName := ⟨RX8, "putStrap", "(III)I"⟩
abbrev cX8_allowsPass : ByteArray := prog_10_method_10_code
def yX8_allowsPass : MethodName := ⟨RX8, "allowsPass", "(LTrunkDuel$Footprint;)Z"⟩
abbrev cX8_skipTurn : ByteArray := prog_10_method_11_code
def yX8_skipTurn : MethodName := ⟨RX8, "skipTurn", "()I"⟩
abbrev cX8_countMoves : ByteArray := prog_10_method_12_code
def yX8_countMoves : MethodName := ⟨RX8, "countMoves", "(ILTrunkDuel$Footprint;)I"⟩
abbrev cX8_endTurn : ByteArray := prog_10_method_13_code
def yX8_endTurn : MethodName := ⟨RX8, "endTurn", "(I)V"⟩
def RX9 : String := "TrunkDuel$Trunk"
def TX9 : u_T := fun k => match k with
  | 0 => ("TrunkDuel$Trunk", "columns", "I", false)
  | 1 => ("TrunkDuel$Trunk", "rows", "I", false)
  | 2 => ("TrunkDuel$Trunk", "cells", "[I", true)
  | _ => ("TrunkDuel$Trunk", "straps", "[Z", true)
def tyX9 : Nat → FieldType := fun k => match k with
  | 0 => .int
  | 1 => .int
  | 2 => .array .int
  | _ => .array .boolean
abbrev wsX90 : List Cond := u_ws RX9 TX9 4
theorem nmX9 : ∀ a, a < 4 → ∀ b, b < 4 → a ≠ b → (TX9 a).2.1 ≠ (TX9 b).2.1 := by decide +kernel
theorem tyX9_ok : ∀ k, k < 4 → parseFieldDescriptor (TX9 k).2.2.1 = some (tyX9 k) := by decide +kernel
abbrev cX9_init : ByteArray := prog_11_method_1_code
def yX9_init : MethodName := ⟨RX9, "<init>", "()V"⟩
abbrev cX9_clear : ByteArray := prog_11_method_2_code
def yX9_clear : MethodName := ⟨RX9, "clear", "(II)V"⟩
abbrev cX9_copyFrom : ByteArray := prog_11_method_3_code
def yX9_copyFrom : MethodName := ⟨RX9, "copyFrom", "(LTrunkDuel$Trunk;)V"⟩
abbrev cX9_holds : ByteArray := prog_11_method_4_code
def yX9_holds : MethodName := ⟨RX9, "holds", "(II)Z"⟩
abbrev cX9_holdsEdge : ByteArray := prog_11_method_5_code
def yX9_holdsEdge : MethodName := ⟨RX9, "holdsEdge", "(III)Z"⟩
abbrev cX9_cellAt : ByteArray := prog_11_method_6_code
def yX9_cellAt : MethodName := ⟨RX9, "cellAt", "(II)I"⟩
abbrev cX9_setCell : ByteArray := prog_11_method_7_code
def yX9_setCell : MethodName := ⟨RX9, "setCell", "(III)V"⟩
abbrev cX9_strapAt : ByteArray := prog_11_method_8_code
def yX9_strapAt : MethodName := ⟨RX9, "strapAt", "(III)Z"⟩
abbrev cX9_setStrap : ByteArray := prog_11_method_9_code
def yX9_setStrap : MethodName := ⟨RX9, "setStrap", "(III)V"⟩
abbrev cX9_cellBeyond : ByteArray := prog_11_method_10_code
def yX9_cellBeyond : MethodName := ⟨RX9, "cellBeyond", "(III)I"⟩
abbrev cX9_isEdgeBlocked : ByteArray := prog_11_method_11_code
def yX9_isEdgeBlocked : MethodName := ⟨RX9, "isEdgeBlocked", "(III)Z"⟩
abbrev cX9_isEdgeCovered : ByteArray := prog_11_method_12_code
def yX9_isEdgeCovered : MethodName := ⟨RX9, "isEdgeCovered", "(III)Z"⟩
abbrev cX9_countEmptyIn : ByteArray := prog_11_method_13_code
def yX9_countEmptyIn : MethodName := ⟨RX9, "countEmptyIn", "(I)I"⟩
abbrev cX9_countCells : ByteArray := prog_11_method_14_code
def yX9_countCells : MethodName := ⟨RX9, "countCells", "(I)I"⟩
abbrev cX9_countCovered : ByteArray := prog_11_method_15_code
def yX9_countCovered : MethodName := ⟨RX9, "countCovered", "()I"⟩
abbrev cX9_countStraps : ByteArray := prog_11_method_16_code
def yX9_countStraps : MethodName := ⟨RX9, "countStraps", "()I"⟩
abbrev cX9_misfitOf : ByteArray := prog_11_method_17_code
def yX9_misfitOf : MethodName := ⟨RX9, "misfitOf", "(LTrunkDuel$Footprint;)I"⟩
abbrev cX9_isCrossedBy : ByteArray := prog_11_method_18_code
def yX9_isCrossedBy : MethodName := ⟨RX9, "isCrossedBy", "(LTrunkDuel$Footprint;)Z"⟩
abbrev cX9_findNext : ByteArray := prog_11_method_19_code
def yX9_findNext : MethodName := ⟨RX9, "findNext", "(LTrunkDuel$Footprint;)Z"⟩
abbrev cX9_countFitting : ByteArray := prog_11_method_20_code
def yX9_countFitting : MethodName := ⟨RX9, "countFitting", "(ILTrunkDuel$Footprint;)I"⟩
abbrev cX9_pointsOf : ByteArray := prog_11_method_21_code
def yX9_pointsOf : MethodName := ⟨RX9, "pointsOf", "(LTrunkDuel$Footprint;)I"⟩
def RX10 : String := "TrunkDuel"
def TX10 : u_T := fun k => match k with
  | 0 => ("TrunkDuel", "reader", "LTrunkDuel$Reader;", true)
  | 1 => ("TrunkDuel", "present", "LTrunkDuel$State;", true)
  | 2 => ("TrunkDuel", "trial", "LTrunkDuel$State;", true)
  | 3 => ("TrunkDuel", "history", "LTrunkDuel$History;", true)
  | 4 => ("TrunkDuel", "saved", "[LTrunkDuel$State;", true)
  | 5 => ("TrunkDuel", "isSaved", "[Z", true)
  | 6 => ("TrunkDuel", "footprint", "LTrunkDuel$Footprint;", true)
  | 7 => ("TrunkDuel", "best", "LTrunkDuel$Choice;", true)
  | 8 => ("TrunkDuel", "crossings", "LTrunkDuel$Crossings;", true)
  | 9 => ("TrunkDuel", "regions", "LTrunkDuel$Regions;", true)
  | 10 => ("TrunkDuel", "output", "[I", true)
  | _ => ("TrunkDuel", "outputLength", "I", false)
def tyX10 : Nat → FieldType := fun k => match k with
  | 0 => .object "TrunkDuel$Reader"
  | 1 => .object "TrunkDuel$State"
  | 2 => .object "TrunkDuel$State"
  | 3 => .object "TrunkDuel$History"
  | 4 => .array (.object "TrunkDuel$State")
  | 5 => .array .boolean
  | 6 => .object "TrunkDuel$Footprint"
  | 7 => .object "TrunkDuel$Choice"
  | 8 => .object "TrunkDuel$Crossings"
  | 9 => .object "TrunkDuel$Regions"
  | 10 => .array .int
  | _ => .int
abbrev wsX100 : List Cond := u_ws RX10 TX10 12
theorem nmX10 : ∀ a, a < 12 → ∀ b, b < 12 → a ≠ b → (TX10 a).2.1 ≠ (TX10 b).2.1 := by decide +kernel
theorem tyX10_ok : ∀ k, k < 12 → parseFieldDescriptor (TX10 k).2.2.1 = some (tyX10 k) := by decide +kernel
abbrev cX10_init : ByteArray := prog_1_method_1_code
def yX10_init : MethodName := ⟨RX10, "<init>", "()V"⟩
abbrev cX10_append : ByteArray := prog_1_method_2_code
def yX10_append : MethodName := ⟨RX10, "append", "(IIIII)I"⟩
abbrev cX10_truncateInput : ByteArray := prog_1_method_3_code
def yX10_truncateInput : MethodName := ⟨RX10, "truncateInput", "(I)I"⟩
abbrev cX10_load : ByteArray := prog_1_method_4_code
def yX10_load : MethodName := ⟨RX10, "load", "()I"⟩
abbrev cX10_place : ByteArray := prog_1_method_8_code
def yX10_place : MethodName := ⟨RX10, "place", "(IIII)I"⟩
abbrev cX10_fastenStrap : ByteArray := prog_1_method_9_code
def yX10_fastenStrap : MethodName := ⟨RX10, "fastenStrap", "(III)I"⟩
abbrev cX10_pass : ByteArray := prog_1_method_10_code
def yX10_pass : MethodName := ⟨RX10, "pass", "()I"⟩
abbrev cX10_undo : ByteArray := prog_1_method_11_code
def yX10_undo : MethodName := ⟨RX10, "undo", "()I"⟩
abbrev cX10_columns : ByteArray := prog_1_method_14_code
def yX10_columns : MethodName := ⟨RX10, "columns", "()I"⟩
abbrev cX10_rows : ByteArray := prog_1_method_15_code
def yX10_rows : MethodName := ⟨RX10, "rows", "()I"⟩
abbrev cX10_emptyCells : ByteArray := prog_1_method_16_code
def yX10_emptyCells : MethodName := ⟨RX10, "emptyCells", "()I"⟩
abbrev cX10_pieceCount : ByteArray := prog_1_method_17_code
def yX10_pieceCount : MethodName := ⟨RX10, "pieceCount", "()I"⟩
abbrev cX10_strapCount : ByteArray := prog_1_method_18_code
def yX10_strapCount : MethodName := ⟨RX10, "strapCount", "()I"⟩
abbrev cX10_completeRows : ByteArray := prog_1_method_19_code
def yX10_completeRows : MethodName := ⟨RX10, "completeRows", "()I"⟩
abbrev cX10_undoableChanges : ByteArray := prog_1_method_20_code
def yX10_undoableChanges : MethodName := ⟨RX10, "undoableChanges", "()I"⟩
abbrev cX10_isBlocked : ByteArray := prog_1_method_21_code
def yX10_isBlocked : MethodName := ⟨RX10, "isBlocked", "(II)Z"⟩
abbrev cX10_pieceAt : ByteArray := prog_1_method_22_code
def yX10_pieceAt : MethodName := ⟨RX10, "pieceAt", "(II)I"⟩
abbrev cX10_hasStrap : ByteArray := prog_1_method_23_code
def yX10_hasStrap : MethodName := ⟨RX10, "hasStrap", "(III)Z"⟩
abbrev cX10_emptyInRow : ByteArray := prog_1_method_24_code
def yX10_emptyInRow : MethodName := ⟨RX10, "emptyInRow", "(I)I"⟩
abbrev cX10_pieceShape : ByteArray := prog_1_method_25_code
def yX10_pieceShape : MethodName := ⟨RX10, "pieceShape", "(I)I"⟩
abbrev cX10_pieceRotation : ByteArray := prog_1_method_26_code
def yX10_pieceRotation : MethodName := ⟨RX10, "pieceRotation", "(I)I"⟩
abbrev cX10_pieceColumn : ByteArray := prog_1_method_27_code
def yX10_pieceColumn : MethodName := ⟨RX10, "pieceColumn", "(I)I"⟩
abbrev cX10_pieceRow : ByteArray := prog_1_method_28_code
def yX10_pieceRow : MethodName := ⟨RX10, "pieceRow", "(I)I"⟩
abbrev cX10_pieceOwner : ByteArray := prog_1_method_29_code
def yX10_pieceOwner : MethodName := ⟨RX10, "pieceOwner", "(I)I"⟩
abbrev cX10_piecePoints : ByteArray := prog_1_method_30_code
def yX10_piecePoints : MethodName := ⟨RX10, "piecePoints", "(I)I"⟩
abbrev cX10_playerToMove : ByteArray := prog_1_method_31_code
def yX10_playerToMove : MethodName := ⟨RX10, "playerToMove", "()I"⟩
abbrev cX10_isOver : ByteArray := prog_1_method_32_code
def yX10_isOver : MethodName := ⟨RX10, "isOver", "()Z"⟩
abbrev cX10_leader : ByteArray := prog_1_method_33_code
def yX10_leader : MethodName := ⟨RX10, "leader", "()I"⟩
abbrev cX10_score : ByteArray := prog_1_method_34_code
def yX10_score : MethodName := ⟨RX10, "score", "(I)I"⟩
abbrev cX10_supply : ByteArray := prog_1_method_35_code
def yX10_supply : MethodName := ⟨RX10, "supply", "(II)I"⟩
abbrev cX10_strapsLeft : ByteArray := prog_1_method_36_code
def yX10_strapsLeft : MethodName := ⟨RX10, "strapsLeft", "(I)I"⟩
abbrev cX10_fits : ByteArray := prog_1_method_38_code
def yX10_fits : MethodName := ⟨RX10, "fits", "(IIII)Z"⟩
abbrev cX10_misfitReason : ByteArray := prog_1_method_39_code
def yX10_misfitReason : MethodName := ⟨RX10, "misfitReason", "(IIII)I"⟩
abbrev cX10_pointsFor : ByteArray := prog_1_method_40_code
def yX10_pointsFor : MethodName := ⟨RX10, "pointsFor", "(IIII)I"⟩
abbrev cX10_mobility : ByteArray := prog_1_method_41_code
def yX10_mobility : MethodName := ⟨RX10, "mobility", "(I)I"⟩
abbrev cX10_mobilityAfter : ByteArray := prog_1_method_43_code
def yX10_mobilityAfter : MethodName := ⟨RX10, "mobilityAfter", "(IIIII)I"⟩
abbrev cX10_bestShape : ByteArray := prog_1_method_44_code
def yX10_bestShape : MethodName := ⟨RX10, "bestShape", "()I"⟩
abbrev cX10_bestRotation : ByteArray := prog_1_method_45_code
def yX10_bestRotation : MethodName := ⟨RX10, "bestRotation", "()I"⟩
abbrev cX10_bestColumn : ByteArray := prog_1_method_46_code
def yX10_bestColumn : MethodName := ⟨RX10, "bestColumn", "()I"⟩
abbrev cX10_bestRow : ByteArray := prog_1_method_47_code
def yX10_bestRow : MethodName := ⟨RX10, "bestRow", "()I"⟩
abbrev cX10_bestStrapEffect : ByteArray := prog_1_method_48_code
def yX10_bestStrapEffect : MethodName := ⟨RX10, "bestStrapEffect", "()I"⟩
abbrev cX10_regionCount : ByteArray := prog_1_method_49_code
def yX10_regionCount : MethodName := ⟨RX10, "regionCount", "()I"⟩
abbrev cX10_largestRegion : ByteArray := prog_1_method_50_code
def yX10_largestRegion : MethodName := ⟨RX10, "largestRegion", "()I"⟩
abbrev cX10_regionSize : ByteArray := prog_1_method_51_code
def yX10_regionSize : MethodName := ⟨RX10, "regionSize", "(II)I"⟩
abbrev cX10_isDead : ByteArray := prog_1_method_52_code
def yX10_isDead : MethodName := ⟨RX10, "isDead", "(II)Z"⟩
abbrev cX10_deadCells : ByteArray := prog_1_method_53_code
def yX10_deadCells : MethodName := ⟨RX10, "deadCells", "()I"⟩
abbrev cX10_inconsistencies : ByteArray := prog_1_method_54_code
def yX10_inconsistencies : MethodName := ⟨RX10, "inconsistencies", "()I"⟩
abbrev cX10_aimAt : ByteArray := prog_1_method_61_code
def yX10_aimAt : MethodName := ⟨RX10, "aimAt", "(IIII)V"⟩
abbrev cX10_requireShape : ByteArray := prog_1_method_62_code
def yX10_requireShape : MethodName := ⟨RX10, "requireShape", "(I)V"⟩
abbrev cX10_requirePlayer : ByteArray := prog_1_method_64_code
def yX10_requirePlayer : MethodName := ⟨RX10, "requirePlayer", "(I)V"⟩
abbrev cX10_requireCell : ByteArray := prog_1_method_65_code
def yX10_requireCell : MethodName := ⟨RX10, "requireCell", "(II)V"⟩
abbrev cX10_requireEdge : ByteArray := prog_1_method_66_code
def yX10_requireEdge : MethodName := ⟨RX10, "requireEdge", "(III)V"⟩
abbrev cX10_requirePiece : ByteArray := prog_1_method_67_code
def yX10_requirePiece : MethodName := ⟨RX10, "requirePiece", "(I)V"⟩
def RX11 : String := "TrunkDuelModel"
def TX11 : u_T := fun k => match k with
  | _ => ("", "", "", false)
def tyX11 : Nat → FieldType := fun k => match k with
  | _ => .int
abbrev wsX110 : List Cond := u_ws RX11 TX11 0
theorem nmX11 : ∀ a, a < 0 → ∀ b, b < 0 → a ≠ b → (TX11 a).2.1 ≠ (TX11 b).2.1 := by decide +kernel
theorem tyX11_ok : ∀ k, k < 0 → parseFieldDescriptor (TX11 k).2.2.1 = some (tyX11 k) := by decide +kernel
def RJ5 : String := "java/lang/AbstractStringBuilder"
def TJ5 : u_T := fun k => match k with
  | _ => ("", "", "", false)
def tyJ5 : Nat → FieldType := fun k => match k with
  | _ => .int
abbrev wsJ50 : List Cond := u_ws RJ5 TJ5 0
theorem nmJ5 : ∀ a, a < 0 → ∀ b, b < 0 → a ≠ b → (TJ5 a).2.1 ≠ (TJ5 b).2.1 := by decide +kernel
theorem tyJ5_ok : ∀ k, k < 0 → parseFieldDescriptor (TJ5 k).2.2.1 = some (tyJ5 k) := by decide +kernel
abbrev cJ5_init_d00df : ByteArray := prog_14_method_2_code
def yJ5_init_d00df : MethodName := ⟨RJ5, "<init>", "(I)V"⟩
abbrev cJ5_init_a7421 : ByteArray := prog_14_method_3_code
def yJ5_init_a7421 : MethodName := ⟨RJ5, "<init>", "(Ljava/lang/String;)V"⟩
abbrev cJ5_length_8abf5 : ByteArray := prog_14_method_6_code
def yJ5_length_8abf5 : MethodName := ⟨RJ5, "length", "()I"⟩
abbrev cJ5_ensureCapacityInternal_d00df : ByteArray := prog_14_method_9_code
def yJ5_ensureCapacityInternal_d00df : MethodName := ⟨RJ5, "ensureCapacityInternal", "(I)V"⟩
abbrev cJ5_newCapacity_0f7a4 : ByteArray := prog_14_method_10_code
def yJ5_newCapacity_0f7a4 : MethodName := ⟨RJ5, "newCapacity", "(I)I"⟩
abbrev cJ5_inflate_da8c8 : ByteArray := prog_14_method_11_code
def yJ5_inflate_da8c8 : MethodName := ⟨RJ5, "inflate", "()V"⟩
abbrev cJ5_append_cf1ce : ByteArray := prog_14_method_22_code
def yJ5_append_cf1ce : MethodName := ⟨RJ5, "append", "(Ljava/lang/String;)Ljava/lang/AbstractStringBuilder;"⟩
abbrev cJ5_appendNull_278bc : ByteArray := prog_14_method_26_code
def yJ5_appendNull_278bc : MethodName := ⟨RJ5, "appendNull", "()Ljava/lang/AbstractStringBuilder;"⟩
abbrev cJ5_append_3fe6f : ByteArray := prog_14_method_31_code
def yJ5_append_3fe6f : MethodName := ⟨RJ5, "append", "(C)Ljava/lang/AbstractStringBuilder;"⟩
abbrev cJ5_append_c97b9 : ByteArray := prog_14_method_32_code
def yJ5_append_c97b9 : MethodName := ⟨RJ5, "append", "(I)Ljava/lang/AbstractStringBuilder;"⟩
abbrev cJ5_getValue_6d5f1 : ByteArray := prog_14_method_64_code
def yJ5_getValue_6d5f1 : MethodName := ⟨RJ5, "getValue", "()[B"⟩
abbrev cJ5_isLatin1_aae02 : ByteArray := prog_14_method_68_code
def yJ5_isLatin1_aae02 : MethodName := ⟨RJ5, "isLatin1", "()Z"⟩
abbrev cJ5_inflateIfNeededFor_a7421 : ByteArray := prog_14_method_71_code
def yJ5_inflateIfNeededFor_a7421 : MethodName := ⟨RJ5, "inflateIfNeededFor", "(Ljava/lang/String;)V"⟩
abbrev cJ5_putStringAt_47b60 : ByteArray := prog_14_method_73_code
def yJ5_putStringAt_47b60 : MethodName := ⟨RJ5, "putStringAt", "(ILjava/lang/String;)V"⟩
def RJx8e188 : String := "java/lang/Cloneable"
def TJx8e188 : u_T := fun k => match k with
  | _ => ("", "", "", false)
def tyJx8e188 : Nat → FieldType := fun k => match k with
  | _ => .int
abbrev wsJx8e1880 : List Cond := u_ws RJx8e188 TJx8e188 0
theorem nmJx8e188 : ∀ a, a < 0 → ∀ b, b < 0 → a ≠ b → (TJx8e188 a).2.1 ≠ (TJx8e188 b).2.1 := by decide +kernel
theorem tyJx8e188_ok : ∀ k, k < 0 → parseFieldDescriptor (TJx8e188 k).2.2.1 = some (tyJx8e188 k) := by decide +kernel
def RJ6 : String := "java/lang/Integer"
def TJ6 : u_T := fun k => match k with
  | _ => ("", "", "", false)
def tyJ6 : Nat → FieldType := fun k => match k with
  | _ => .int
abbrev wsJ60 : List Cond := u_ws RJ6 TJ6 0
theorem nmJ6 : ∀ a, a < 0 → ∀ b, b < 0 → a ≠ b → (TJ6 a).2.1 ≠ (TJ6 b).2.1 := by decide +kernel
theorem tyJ6_ok : ∀ k, k < 0 → parseFieldDescriptor (TJ6 k).2.2.1 = some (tyJ6 k) := by decide +kernel
abbrev cJ6_getChars_ba4f3 : ByteArray := prog_20_method_12_code
def yJ6_getChars_ba4f3 : MethodName := ⟨RJ6, "getChars", "(II[B)I"⟩
abbrev cJ6_stringSize_0f7a4 : ByteArray := prog_20_method_13_code
def yJ6_stringSize_0f7a4 : MethodName := ⟨RJ6, "stringSize", "(I)I"⟩
def RJ9 : String := "java/lang/Math"
def TJ9 : u_T := fun k => match k with
  | _ => ("", "", "", false)
def tyJ9 : Nat → FieldType := fun k => match k with
  | _ => .int
abbrev wsJ90 : List Cond := u_ws RJ9 TJ9 0
theorem nmJ9 : ∀ a, a < 0 → ∀ b, b < 0 → a ≠ b → (TJ9 a).2.1 ≠ (TJ9 b).2.1 := by decide +kernel
theorem tyJ9_ok : ∀ k, k < 0 → parseFieldDescriptor (TJ9 k).2.2.1 = some (tyJ9 k) := by decide +kernel
abbrev cJ9_abs_0f7a4 : ByteArray := prog_21_method_59_code
def yJ9_abs_0f7a4 : MethodName := ⟨RJ9, "abs", "(I)I"⟩
abbrev cJ9_max_7cf53 : ByteArray := prog_21_method_65_code
def yJ9_max_7cf53 : MethodName := ⟨RJ9, "max", "(II)I"⟩
abbrev cJ9_min_7cf53 : ByteArray := prog_21_method_69_code
def yJ9_min_7cf53 : MethodName := ⟨RJ9, "min", "(II)I"⟩
def RJ0 : String := "java/lang/String"
def TJ0 : u_T := fun k => match k with
  | 0 => ("java/lang/String", "value", "[B", true)
  | 1 => ("java/lang/String", "coder", "B", true)
  | 2 => ("java/lang/String", "hash", "I", false)
  | _ => ("java/lang/String", "hashIsZero", "Z", false)
def tyJ0 : Nat → FieldType := fun k => match k with
  | 0 => .array .byte
  | 1 => .byte
  | 2 => .int
  | _ => .boolean
abbrev wsJ00 : List Cond := u_ws RJ0 TJ0 4
theorem nmJ0 : ∀ a, a < 4 → ∀ b, b < 4 → a ≠ b → (TJ0 a).2.1 ≠ (TJ0 b).2.1 := by decide +kernel
theorem tyJ0_ok : ∀ k, k < 4 → parseFieldDescriptor (TJ0 k).2.2.1 = some (tyJ0 k) := by decide +kernel
abbrev cJ0_init_81219 : ByteArray := prog_23_method_53_code
def yJ0_init_81219 : MethodName := ⟨RJ0, "<init>", "(Ljava/lang/StringBuilder;)V"⟩
abbrev cJ0_length_8abf5 : ByteArray := prog_23_method_54_code
def yJ0_length_8abf5 : MethodName := ⟨RJ0, "length", "()I"⟩
abbrev cJ0_charAt_5068e : ByteArray := prog_23_method_56_code
def yJ0_charAt_5068e : MethodName := ⟨RJ0, "charAt", "(I)C"⟩
abbrev cJ0_getBytes_840e7 : ByteArray := prog_23_method_147_code
def yJ0_getBytes_840e7 : MethodName := ⟨RJ0, "getBytes", "([BIB)V"⟩
abbrev cJ0_init_db425 : ByteArray := prog_23_method_150_code
def yJ0_init_db425 : MethodName := ⟨RJ0, "<init>", "(Ljava/lang/AbstractStringBuilder;Ljava/lang/Void;)V"⟩
abbrev cJ0_coder_7d493 : ByteArray := prog_23_method_152_code
def yJ0_coder_7d493 : MethodName := ⟨RJ0, "coder", "()B"⟩
abbrev cJ0_isLatin1_aae02 : ByteArray := prog_23_method_154_code
def yJ0_isLatin1_aae02 : MethodName := ⟨RJ0, "isLatin1", "()Z"⟩
abbrev cJ0_checkIndex_df160 : ByteArray := prog_23_method_155_code
def yJ0_checkIndex_df160 : MethodName := ⟨RJ0, "checkIndex", "(II)V"⟩
abbrev cJ0_checkBoundsOffCount_cabcc : ByteArray := prog_23_method_157_code
def yJ0_checkBoundsOffCount_cabcc : MethodName := ⟨RJ0, "checkBoundsOffCount", "(III)I"⟩
abbrev cJ0_checkBoundsBeginEnd_23922 : ByteArray := prog_23_method_158_code
def yJ0_checkBoundsBeginEnd_23922 : MethodName := ⟨RJ0, "checkBoundsBeginEnd", "(III)V"⟩
def RJ4 : String := "java/lang/StringBuilder"
def TJ4 : u_T := fun k => match k with
  | 0 => ("java/lang/AbstractStringBuilder", "value", "[B", false)
  | 1 => ("java/lang/AbstractStringBuilder", "coder", "B", false)
  | 2 => ("java/lang/AbstractStringBuilder", "maybeLatin1", "Z", false)
  | _ => ("java/lang/AbstractStringBuilder", "count", "I", false)
def tyJ4 : Nat → FieldType := fun k => match k with
  | 0 => .array .byte
  | 1 => .byte
  | 2 => .boolean
  | _ => .int
abbrev wsJ40 : List Cond := u_ws RJ4 TJ4 4
theorem nmJ4 : ∀ a, a < 4 → ∀ b, b < 4 → a ≠ b → (TJ4 a).2.1 ≠ (TJ4 b).2.1 := by decide +kernel
theorem tyJ4_ok : ∀ k, k < 4 → parseFieldDescriptor (TJ4 k).2.2.1 = some (tyJ4 k) := by decide +kernel
abbrev cJ4_init_da8c8 : ByteArray := prog_24_method_1_code
def yJ4_init_da8c8 : MethodName := ⟨RJ4, "<init>", "()V"⟩
abbrev cJ4_init_a7421 : ByteArray := prog_24_method_3_code
def yJ4_init_a7421 : MethodName := ⟨RJ4, "<init>", "(Ljava/lang/String;)V"⟩
abbrev cJ4_append_15ec4 : ByteArray := prog_24_method_7_code
def yJ4_append_15ec4 : MethodName := ⟨RJ4, "append", "(Ljava/lang/String;)Ljava/lang/StringBuilder;"⟩
abbrev cJ4_append_cf468 : ByteArray := prog_24_method_14_code
def yJ4_append_cf468 : MethodName := ⟨RJ4, "append", "(C)Ljava/lang/StringBuilder;"⟩
abbrev cJ4_append_bf812 : ByteArray := prog_24_method_15_code
def yJ4_append_bf812 : MethodName := ⟨RJ4, "append", "(I)Ljava/lang/StringBuilder;"⟩
abbrev cJ4_toString_0e30d : ByteArray := prog_24_method_42_code
def yJ4_toString_0e30d : MethodName := ⟨RJ4, "toString", "()Ljava/lang/String;"⟩
abbrev cJ4_append_cf1ce : ByteArray := prog_24_method_80_code
def yJ4_append_cf1ce : MethodName := ⟨RJ4, "append", "(Ljava/lang/String;)Ljava/lang/AbstractStringBuilder;"⟩
abbrev cJ4_length_8abf5 : ByteArray := prog_24_method_93_code
def yJ4_length_8abf5 : MethodName := ⟨RJ4, "length", "()I"⟩
def RJ1 : String := "java/lang/StringLatin1"
def TJ1 : u_T := fun k => match k with
  | _ => ("", "", "", false)
def tyJ1 : Nat → FieldType := fun k => match k with
  | _ => .int
abbrev wsJ10 : List Cond := u_ws RJ1 TJ1 0
theorem nmJ1 : ∀ a, a < 0 → ∀ b, b < 0 → a ≠ b → (TJ1 a).2.1 ≠ (TJ1 b).2.1 := by decide +kernel
theorem tyJ1_ok : ∀ k, k < 0 → parseFieldDescriptor (TJ1 k).2.2.1 = some (tyJ1 k) := by decide +kernel
abbrev cJ1_charAt_3b067 : ByteArray := prog_25_method_2_code
def yJ1_charAt_3b067 : MethodName := ⟨RJ1, "charAt", "([BI)C"⟩
abbrev cJ1_canEncode_fc78d : ByteArray := prog_25_method_3_code
def yJ1_canEncode_fc78d : MethodName := ⟨RJ1, "canEncode", "(C)Z"⟩
abbrev cJ1_inflate_0e8fd : ByteArray := prog_25_method_50_code
def yJ1_inflate_0e8fd : MethodName := ⟨RJ1, "inflate", "([BI[BII)V"⟩
def RJ2 : String := "java/lang/StringUTF16"
def TJ2 : u_T := fun k => match k with
  | _ => ("", "", "", false)
def tyJ2 : Nat → FieldType := fun k => match k with
  | _ => .int
abbrev wsJ20 : List Cond := u_ws RJ2 TJ2 0
theorem nmJ2 : ∀ a, a < 0 → ∀ b, b < 0 → a ≠ b → (TJ2 a).2.1 ≠ (TJ2 b).2.1 := by decide +kernel
theorem tyJ2_ok : ∀ k, k < 0 → parseFieldDescriptor (TJ2 k).2.2.1 = some (tyJ2 k) := by decide +kernel
abbrev cJ2_newBytesFor_77867 : ByteArray := prog_26_method_2_code
def yJ2_newBytesFor_77867 : MethodName := ⟨RJ2, "newBytesFor", "(I)[B"⟩
abbrev cJ2_newBytesLength_0f7a4 : ByteArray := prog_26_method_3_code
def yJ2_newBytesLength_0f7a4 : MethodName := ⟨RJ2, "newBytesLength", "(I)I"⟩
abbrev cJ2_putChar_b72d1 : ByteArray := prog_26_method_4_code
def yJ2_putChar_b72d1 : MethodName := ⟨RJ2, "putChar", "([BII)V"⟩
abbrev cJ2_getChar_3b067 : ByteArray := prog_26_method_5_code
def yJ2_getChar_3b067 : MethodName := ⟨RJ2, "getChar", "([BI)C"⟩
abbrev cJ2_length_9d52b : ByteArray := prog_26_method_6_code
def yJ2_length_9d52b : MethodName := ⟨RJ2, "length", "([B)I"⟩
abbrev cJ2_coderFromArrayLen_85cad : ByteArray := prog_26_method_15_code
def yJ2_coderFromArrayLen_85cad : MethodName := ⟨RJ2, "coderFromArrayLen", "([BI)B"⟩
abbrev cJ2_compress_39247 : ByteArray := prog_26_method_17_code
def yJ2_compress_39247 : MethodName := ⟨RJ2, "compress", "([BII)[B"⟩
abbrev cJ2_compress_5af95 : ByteArray := prog_26_method_22_code
def yJ2_compress_5af95 : MethodName := ⟨RJ2, "compress", "([BI[BII)I"⟩
abbrev cJ2_putCharSB_b72d1 : ByteArray := prog_26_method_71_code
def yJ2_putCharSB_b72d1 : MethodName := ⟨RJ2, "putCharSB", "([BII)V"⟩
abbrev cJ2_getChars_46870 : ByteArray := prog_26_method_77_code
def yJ2_getChars_46870 : MethodName := ⟨RJ2, "getChars", "(III[B)I"⟩
abbrev cJ2_putCharsAt_cd4e5 : ByteArray := prog_26_method_81_code
def yJ2_putCharsAt_cd4e5 : MethodName := ⟨RJ2, "putCharsAt", "([BICCCC)I"⟩
abbrev cJ2_charAt_3b067 : ByteArray := prog_26_method_83_code
def yJ2_charAt_3b067 : MethodName := ⟨RJ2, "charAt", "([BI)C"⟩
abbrev cJ2_inflate_0e8fd : ByteArray := prog_26_method_86_code
def yJ2_inflate_0e8fd : MethodName := ⟨RJ2, "inflate", "([BI[BII)V"⟩
abbrev cJ2_getChars_ba4f3 : ByteArray := prog_26_method_89_code
def yJ2_getChars_ba4f3 : MethodName := ⟨RJ2, "getChars", "(II[B)I"⟩
abbrev cJ2_checkIndex_2214a : ByteArray := prog_26_method_91_code
def yJ2_checkIndex_2214a : MethodName := ⟨RJ2, "checkIndex", "(I[B)V"⟩
abbrev cJ2_checkBoundsBeginEnd_d044e : ByteArray := prog_26_method_93_code
def yJ2_checkBoundsBeginEnd_d044e : MethodName := ⟨RJ2, "checkBoundsBeginEnd", "(II[B)V"⟩
abbrev cJ2_checkBoundsOffCount_d044e : ByteArray := prog_26_method_94_code
def yJ2_checkBoundsOffCount_d044e : MethodName := ⟨RJ2, "checkBoundsOffCount", "(II[B)V"⟩
def RJ10 : String := "java/lang/System"
def TJ10 : u_T := fun k => match k with
  | _ => ("", "", "", false)
def tyJ10 : Nat → FieldType := fun k => match k with
  | _ => .int
abbrev wsJ100 : List Cond := u_ws RJ10 TJ10 0
theorem nmJ10 : ∀ a, a < 0 → ∀ b, b < 0 → a ≠ b → (TJ10 a).2.1 ≠ (TJ10 b).2.1 := by decide +kernel
theorem tyJ10_ok : ∀ k, k < 0 → parseFieldDescriptor (TJ10 k).2.2.1 = some (tyJ10 k) := by decide +kernel
def RJ7 : String := "java/util/Arrays"
def TJ7 : u_T := fun k => match k with
  | _ => ("", "", "", false)
def tyJ7 : Nat → FieldType := fun k => match k with
  | _ => .int
abbrev wsJ70 : List Cond := u_ws RJ7 TJ7 0
theorem nmJ7 : ∀ a, a < 0 → ∀ b, b < 0 → a ≠ b → (TJ7 a).2.1 ≠ (TJ7 b).2.1 := by decide +kernel
theorem tyJ7_ok : ∀ k, k < 0 → parseFieldDescriptor (TJ7 k).2.2.1 = some (tyJ7 k) := by decide +kernel
abbrev cJ7_copyOf_9075b : ByteArray := prog_29_method_121_code
def yJ7_copyOf_9075b : MethodName := ⟨RJ7, "copyOf", "([BI)[B"⟩
abbrev cJ7_checkLength_df160 : ByteArray := prog_29_method_131_code
def yJ7_checkLength_df160 : MethodName := ⟨RJ7, "checkLength", "(II)V"⟩
abbrev cJ7_copyOfRange_39247 : ByteArray := prog_29_method_132_code
def yJ7_copyOfRange_39247 : MethodName := ⟨RJ7, "copyOfRange", "([BII)[B"⟩
abbrev cJ7_copyOfRangeByte_39247 : ByteArray := prog_29_method_133_code
def yJ7_copyOfRangeByte_39247 : MethodName := ⟨RJ7, "copyOfRangeByte", "([BII)[B"⟩
def RJ8 : String := "jdk/internal/util/ArraysSupport"
def TJ8 : u_T := fun k => match k with
  | _ => ("", "", "", false)
def tyJ8 : Nat → FieldType := fun k => match k with
  | _ => .int
abbrev wsJ80 : List Cond := u_ws RJ8 TJ8 0
theorem nmJ8 : ∀ a, a < 0 → ∀ b, b < 0 → a ≠ b → (TJ8 a).2.1 ≠ (TJ8 b).2.1 := by decide +kernel
theorem tyJ8_ok : ∀ k, k < 0 → parseFieldDescriptor (TJ8 k).2.2.1 = some (tyJ8 k) := by decide +kernel
abbrev cJ8_newLength_cabcc : ByteArray := prog_30_method_27_code
def yJ8_newLength_cabcc : MethodName := ⟨RJ8, "newLength", "(III)I"⟩
abbrev cJ8_hugeLength_7cf53 : ByteArray := prog_30_method_28_code
def yJ8_hugeLength_7cf53 : MethodName := ⟨RJ8, "hugeLength", "(II)I"⟩
def RJ3 : String := "jdk/internal/util/Preconditions"
def TJ3 : u_T := fun k => match k with
  | _ => ("", "", "", false)
def tyJ3 : Nat → FieldType := fun k => match k with
  | _ => .int
abbrev wsJ30 : List Cond := u_ws RJ3 TJ3 0
theorem nmJ3 : ∀ a, a < 0 → ∀ b, b < 0 → a ≠ b → (TJ3 a).2.1 ≠ (TJ3 b).2.1 := by decide +kernel
theorem tyJ3_ok : ∀ k, k < 0 → parseFieldDescriptor (TJ3 k).2.2.1 = some (tyJ3 k) := by decide +kernel
abbrev cJ3_checkIndex_8e157 : ByteArray := prog_31_method_11_code
def yJ3_checkIndex_8e157 : MethodName := ⟨RJ3, "checkIndex", "(IILjava/util/function/BiFunction;)I"⟩
abbrev cJ3_checkFromToIndex_8c36e : ByteArray := prog_31_method_12_code
def yJ3_checkFromToIndex_8c36e : MethodName := ⟨RJ3, "checkFromToIndex", "(IIILjava/util/function/BiFunction;)I"⟩
abbrev cJ3_checkFromIndexSize_8c36e : ByteArray := prog_31_method_13_code
def yJ3_checkFromIndexSize_8c36e : MethodName := ⟨RJ3, "checkFromIndexSize", "(IIILjava/util/function/BiFunction;)I"⟩
def RL : String := "TrunkDuelLaw"
abbrev cL_truncateInput : ByteArray := method_2_code
def yL_truncateInput : MethodName := ⟨RL, "truncateInput", "(LTrunkDuel;I)I"⟩
abbrev cL_place : ByteArray := method_3_code
def yL_place : MethodName := ⟨RL, "place", "(LTrunkDuel;IIII)I"⟩
abbrev cL_fastenStrap : ByteArray := method_4_code
def yL_fastenStrap : MethodName := ⟨RL, "fastenStrap", "(LTrunkDuel;III)I"⟩
abbrev cL_pass : ByteArray := method_5_code
def yL_pass : MethodName := ⟨RL, "pass", "(LTrunkDuel;)I"⟩
abbrev cL_undo : ByteArray := method_6_code
def yL_undo : MethodName := ⟨RL, "undo", "(LTrunkDuel;)I"⟩
abbrev cL_isBlocked : ByteArray := method_7_code
def yL_isBlocked : MethodName := ⟨RL, "isBlocked", "(LTrunkDuel;II)I"⟩
abbrev cL_pieceAt : ByteArray := method_8_code
def yL_pieceAt : MethodName := ⟨RL, "pieceAt", "(LTrunkDuel;II)I"⟩
abbrev cL_hasStrap : ByteArray := method_9_code
def yL_hasStrap : MethodName := ⟨RL, "hasStrap", "(LTrunkDuel;III)I"⟩
abbrev cL_emptyInRow : ByteArray := method_10_code
def yL_emptyInRow : MethodName := ⟨RL, "emptyInRow", "(LTrunkDuel;I)I"⟩
abbrev cL_pieceShape : ByteArray := method_11_code
def yL_pieceShape : MethodName := ⟨RL, "pieceShape", "(LTrunkDuel;I)I"⟩
abbrev cL_pieceRotation : ByteArray := method_12_code
def yL_pieceRotation : MethodName := ⟨RL, "pieceRotation", "(LTrunkDuel;I)I"⟩
abbrev cL_pieceColumn : ByteArray := method_13_code
def yL_pieceColumn : MethodName := ⟨RL, "pieceColumn", "(LTrunkDuel;I)I"⟩
abbrev cL_pieceRow : ByteArray := method_14_code
def yL_pieceRow : MethodName := ⟨RL, "pieceRow", "(LTrunkDuel;I)I"⟩
abbrev cL_pieceOwner : ByteArray := method_15_code
def yL_pieceOwner : MethodName := ⟨RL, "pieceOwner", "(LTrunkDuel;I)I"⟩
abbrev cL_piecePoints : ByteArray := method_16_code
def yL_piecePoints : MethodName := ⟨RL, "piecePoints", "(LTrunkDuel;I)I"⟩
abbrev cL_score : ByteArray := method_17_code
def yL_score : MethodName := ⟨RL, "score", "(LTrunkDuel;I)I"⟩
abbrev cL_supply : ByteArray := method_18_code
def yL_supply : MethodName := ⟨RL, "supply", "(LTrunkDuel;II)I"⟩
abbrev cL_strapsLeft : ByteArray := method_19_code
def yL_strapsLeft : MethodName := ⟨RL, "strapsLeft", "(LTrunkDuel;I)I"⟩
abbrev cL_fits : ByteArray := method_20_code
def yL_fits : MethodName := ⟨RL, "fits", "(LTrunkDuel;IIII)I"⟩
abbrev cL_misfitReason : ByteArray := method_21_code
def yL_misfitReason : MethodName := ⟨RL, "misfitReason", "(LTrunkDuel;IIII)I"⟩
abbrev cL_pointsFor : ByteArray := method_22_code
def yL_pointsFor : MethodName := ⟨RL, "pointsFor", "(LTrunkDuel;IIII)I"⟩
abbrev cL_mobility : ByteArray := method_23_code
def yL_mobility : MethodName := ⟨RL, "mobility", "(LTrunkDuel;I)I"⟩
abbrev cL_mobilityAfter : ByteArray := method_24_code
def yL_mobilityAfter : MethodName := ⟨RL, "mobilityAfter", "(LTrunkDuel;IIIII)I"⟩
abbrev cL_regionSize : ByteArray := method_25_code
def yL_regionSize : MethodName := ⟨RL, "regionSize", "(LTrunkDuel;II)I"⟩
abbrev cL_isDead : ByteArray := method_26_code
def yL_isDead : MethodName := ⟨RL, "isDead", "(LTrunkDuel;II)I"⟩
abbrev cL_word : ByteArray := method_27_code
def yL_word : MethodName := ⟨RL, "word", "(Ljava/lang/String;I)I"⟩
abbrev cL_write : ByteArray := method_28_code
def yL_write : MethodName := ⟨RL, "write", "(LTrunkDuel;Ljava/lang/String;)Z"⟩
abbrev cL_draw : ByteArray := method_29_code
def yL_draw : MethodName := ⟨RL, "draw", "([II)I"⟩
abbrev cL_isSound : ByteArray := method_30_code
def yL_isSound : MethodName := ⟨RL, "isSound", "(LTrunkDuel;)Z"⟩
abbrev cL_moves : ByteArray := method_31_code
def yL_moves : MethodName := ⟨RL, "moves", "(LTrunkDuel;[I)Z"⟩
abbrev cL_places : ByteArray := method_32_code
def yL_places : MethodName := ⟨RL, "places", "(LTrunkDuel;IIIII)Z"⟩
abbrev cL_law : ByteArray := code
def yL_law : MethodName := ⟨RL, "law", "([I)Z"⟩
abbrev vwCl : List vw_C := [(RX0, TX0, 5), (RX1, TX1, 1), (RX2, TX2, 11), (RX3, TX3, 3), (RX4, TX4, 7), (RX5, TX5, 5), (RX6, TX6, 14), (RX7, TX7, 5), (RX8, TX8, 6), (RX9, TX9, 4), (RX10, TX10, 12)]
end
section
/-! ===== THE GHOST MACHINE: the bytecode over a heap of numbered cells; its steps are formulas ===== -/
/-- a ghost cell: an object (the number of its class, its fields) or an array -/
abbrev GC : Type := (Nat × List Value) ⊕ (FieldType × vp_A)
/-- a ghost heap: the next number (0: no more cells are tracked), the cells -/
abbrev GH : Type := Nat × (Nat → Option GC)
/-- what is wanted behind a method: int, void, reference, double, float, a throw -/
abbrev GQ : Type := (Int32 → GH → Prop) × (GH → Prop) × (Nat → GH → Prop) × (UInt64 → GH → Prop) × (UInt32 → GH → Prop) × (String → GH → Prop)
/-- an entry of a method's table: the instruction, the next pc, five numbers -/
abbrev GE : Type := Instr × Nat × Nat × Nat × Nat × Nat × Nat
abbrev GL : Type := List (Option Value)
abbrev GX : Type := Nat → Nat → Nat → GL → List Value → GH → Prop
abbrev GHd : Type := List (Nat × Nat × Nat × Nat × String)
def gU (G : GH) (a : Nat) (c : GC) : GH := (G.1, fun j => if j = a then some c else G.2 j)
def gPush (G : GH) (c : GC) : GH := (G.1 + 1, fun j => if j = G.1 then some c else G.2 j)
def gDirty (G : GH) : GH := (0, G.2)
def gQi (K : Int32 → GH → Prop) (KX : String → GH → Prop) : GQ := (K, fun _ => False, fun _ _ => False, fun _ _ => False, fun _ _ => False, KX)
def gQv (K : GH → Prop) (KX : String → GH → Prop) : GQ := (fun _ _ => False, K, fun _ _ => False, fun _ _ => False, fun _ _ => False, KX)
def gQr (K : Nat → GH → Prop) : GQ := (fun _ _ => False, fun _ => False, K, fun _ _ => False, fun _ _ => False, fun _ _ => False)
def gQd (K : UInt64 → GH → Prop) : GQ := (fun _ _ => False, fun _ => False, fun _ _ => False, K, fun _ _ => False, fun _ _ => False)
def gQf (K : UInt32 → GH → Prop) : GQ := (fun _ _ => False, fun _ => False, fun _ _ => False, fun _ _ => False, K, fun _ _ => False)
def gNo : String → GH → Prop := fun _ _ => False
def gLe (P Q : GQ) : Prop := (∀ x G, P.1 x G → Q.1 x G) ∧ (∀ G, P.2.1 G → Q.2.1 G) ∧ (∀ x G, P.2.2.1 x G → Q.2.2.1 x G) ∧ (∀ x G, P.2.2.2.1 x G → Q.2.2.2.1 x G) ∧ (∀ x G, P.2.2.2.2.1 x G → Q.2.2.2.2.1 x G) ∧ (∀ x G, P.2.2.2.2.2 x G → Q.2.2.2.2.2 x G)
theorem gLe.rf (P : GQ) : gLe P P := ⟨fun _ _ h => h, fun _ h => h, fun _ _ h => h, fun _ _ h => h, fun _ _ h => h, fun _ _ h => h⟩
theorem gLe.tr {P Q R : GQ} (h : gLe P Q) (k : gLe Q R) : gLe P R := ⟨fun x G q => k.1 x G (h.1 x G q), fun G q => k.2.1 G (h.2.1 G q), fun x G q => k.2.2.1 x G (h.2.2.1 x G q), fun x G q => k.2.2.2.1 x G (h.2.2.2.1 x G q), fun x G q => k.2.2.2.2.1 x G (h.2.2.2.2.1 x G q), fun x G q => k.2.2.2.2.2 x G (h.2.2.2.2.2 x G q)⟩
/-- a chunked table -/
def gLook (t : List (List (Option GE))) (pc : Nat) : Option GE := match t[pc / 32]? with
  | some ch => (match ch[pc % 32]? with
    | some o => o
    | none => none)
  | none => none
/-- a written number: b = 0: a; else -a -/
def gK (b a : Nat) : Int32 := match b with
  | 0 => nI a
  | _ => -(nI a)
def gInc (x : Int32) (b a : Nat) : Int32 := match b with
  | 0 => x + nI a
  | _ => x - nI a
def gKill (ls : GL) (i : Nat) : GL := match i with
  | 0 => ls
  | j + 1 => (match ls[j]? with
    | some (some (.double _)) => ls.set j none
    | some (some (.long _)) => ls.set j none
    | _ => ls)
def gSt1 (ls : GL) (i : Nat) (v : Value) : GL := (gKill ls i).set i (some v)
def gSt2 (ls : GL) (i : Nat) (v : Value) : GL := ((gKill ls i).set i (some v)).set (i + 1) none
def gCat : List Value → Nat
  | [] => 0
  | .double _ :: r => 2 + gCat r
  | .long _ :: r => 2 + gCat r
  | _ :: r => 1 + gCat r
def gFit (c : Nat) (v : Value) : Prop := match c, v with
  | 0, .int _ => True
  | 1, .ref _ => True
  | 2, .int x => x = nI 0 ∨ x = nI 1
  | _, _ => False
def gSw (X : Nat → Prop) (pc : Nat) (x : Int32) : Int → List Int → Prop
  | _, [] => True
  | lo, o :: os => (x.toInt = lo → X ((pc : Int) + o).toNat) ∧ gSw X pc x (lo + 1) os
/-- behind a throw of a callee: the handlers that stand over pc, then the caller -/
def gHand (X : GX) (KX : String → GH → Prop) (rc rs pc : Nat) (ls : GL) (E : String) (G : GH) : GHd → Prop
  | [] => KX E G
  | (s, t, h, k, nm) :: r => bif Nat.ble s pc && Nat.blt pc t then (if E = nm then X rc rs h ((gKill ls k).set k none) [] G else gHand X KX rc rs pc ls E G r) else gHand X KX rc rs pc ls E G r
def gLd (ls : GL) (k : Nat) (K : Value → Prop) : Prop := match ls[k]? with
  | some (some v) => K v
  | _ => False
def gLdI (ls : GL) (k : Nat) (K : Int32 → Prop) : Prop := match ls[k]? with
  | some (some (.int x)) => K x
  | _ => False
def gLdA (ls : GL) (k : Nat) (K : Nat → Prop) : Prop := match ls[k]? with
  | some (some (.ref x)) => K x
  | _ => False
def gLdD (ls : GL) (k : Nat) (K : UInt64 → Prop) : Prop := match ls[k]? with
  | some (some (.double x)) => K x
  | _ => False
def gCond (cd : Jvm.ClassFile.Cond) (x y : Int32) (A B : Prop) : Prop := match cd with
  | .eq => if x = y then A else B
  | .ne => if x = y then B else A
  | .lt => if x < y then A else B
  | .ge => if x < y then B else A
  | .gt => if y < x then A else B
  | .le => if y < x then B else A
def gArith (i : Instr) (x y : Int32) (K : Int32 → Prop) : Prop := match i with
  | .iadd => K (x + y)
  | .isub => K (x - y)
  | .imul => K (x * y)
  | .iand => K (x &&& y)
  | .ior => K (x ||| y)
  | .ishl => K (x <<< (y &&& 31))
  | .ishr => K (x >>> (y &&& 31))
  | .iushr => K (x.toUInt32 >>> (y.toUInt32 &&& Int32.toUInt32 31)).toInt32
  | .idiv => ¬ y = 0 ∧ K (x / y)
  | .irem => ¬ y = 0 ∧ K (x - x / y * y)
  | _ => False
/-- the read-only cells begin here -/
abbrev gRB : Nat := 100000
/-- String constants: which text stands at a read-only number -/
abbrev GS : Type := Nat → Option (List Nat)
def gInv (C : Nat → Nat → Nat → List Value → GH → GQ → Prop) (X : GX) (Q : GQ) (S : GS) (hh : GHd) (rc rs pc : Nat) (ls : GL) (st : List Value) (G : GH) (n a b c d e : Nat) : Prop :=
  match e with
  | 0 => bif Nat.ble (gCat (st.drop b)) 8 && (Nat.beq (st.take b).length b && Nat.beq (gCat (st.take b)) b) then ∃ c1 d1, c1 ≤ rc ∧ d1 ≤ rs ∧ C a c1 d1 (st.take b).reverse G (gQi (fun x G => X (rc - c1) (rs - d1) n ls (.int x :: st.drop b) G) gNo) else False
  | 1 => bif Nat.ble (gCat (st.drop b)) 8 && (Nat.beq (st.take b).length b && Nat.beq (gCat (st.take b)) b) then ∃ c1 d1, c1 ≤ rc ∧ d1 ≤ rs ∧ C a c1 d1 (st.take b).reverse G (gQv (fun G => X (rc - c1) (rs - d1) n ls (st.drop b) G) gNo) else False
  | 2 => bif Nat.ble (gCat (st.drop b)) 8 && (Nat.beq (st.take b).length b && Nat.beq (gCat (st.take b)) b) then ∃ c1 d1, c1 ≤ rc ∧ d1 ≤ rs ∧ C a c1 d1 (st.take b).reverse G (gQr (fun x G => X (rc - c1) (rs - d1) n ls (.ref x :: st.drop b) G)) else False
  | 3 => bif Nat.ble (gCat (st.drop b)) 8 && (Nat.beq (st.take b).length b && Nat.beq (gCat (st.take b)) b) then ∃ c1 d1, c1 ≤ rc ∧ d1 ≤ rs ∧ C a c1 d1 (st.take b).reverse G (gQd (fun x G => X (rc - c1) (rs - d1) n ls (.double x :: st.drop b) G)) else False
  | 4 => bif Nat.ble (gCat (st.drop b)) 8 && (Nat.beq (st.take b).length b && Nat.beq (gCat (st.take b)) b) then ∃ c1 d1, c1 ≤ rc ∧ d1 ≤ rs ∧ C a c1 d1 (st.take b).reverse G (gQf (fun x G => X (rc - c1) (rs - d1) n ls (.float x :: st.drop b) G)) else False
  | 10 => bif Nat.ble (gCat (st.drop b)) 8 && (Nat.beq (st.take b).length b && Nat.beq (gCat (st.take b)) b) then ∃ c1 d1, c1 ≤ rc ∧ d1 ≤ rs ∧ C a c1 d1 (st.take b).reverse G (gQi (fun x G => X (rc - c1) (rs - d1) n ls (.int x :: st.drop b) G) (fun E G => gHand X Q.2.2.2.2.2 (rc - c1) (rs - d1) pc ls E G hh)) else False
  | 11 => bif Nat.ble (gCat (st.drop b)) 8 && (Nat.beq (st.take b).length b && Nat.beq (gCat (st.take b)) b) then ∃ c1 d1, c1 ≤ rc ∧ d1 ≤ rs ∧ C a c1 d1 (st.take b).reverse G (gQv (fun G => X (rc - c1) (rs - d1) n ls (st.drop b) G) (fun E G => gHand X Q.2.2.2.2.2 (rc - c1) (rs - d1) pc ls E G hh)) else False
  | 20 => (match st with
    | .int y :: .int x :: r => bif Nat.ble (gCat r) 8 then X rc rs n ls (.int (if y < x then y else x) :: r) G else False
    | _ => False)
  | 21 => (match st with
    | .int y :: .int x :: r => bif Nat.ble (gCat r) 8 then X rc rs n ls (.int (if x < y then y else x) :: r) G else False
    | _ => False)
  | 22 => (match st with
    | .int x :: r => bif Nat.ble (gCat r) 8 then X rc rs n ls (.int (if 0 ≤ x then x else 0 - x) :: r) G else False
    | _ => False)
  | 23 => (match st with
    | .ref o :: r => bif Nat.ble (gCat r) 8 then ∃ tx, S o = some tx ∧ X rc rs n ls (.int (nI tx.length) :: r) G else False
    | _ => False)
  | 24 => (match st with
    | .int j :: .ref o :: r => bif Nat.ble (gCat r) 8 then ∃ tx k ch, S o = some tx ∧ j = nI k ∧ tx[k]? = some ch ∧ X rc rs n ls (.int (nI ch) :: r) G else False
    | _ => False)
  | 27 => (match st with
    | .ref o :: r => bif Nat.ble (gCat r) 8 then gRB ≤ o ∧ ∃ m f, G.2 o = some (.inr (.byte, m, .inl f)) ∧ X rc rs n ls (.int (nI m) :: r) G else False
    | _ => False)
  | 28 => (match st with
    | .int j :: .ref o :: r => bif Nat.ble (gCat r) 8 then gRB ≤ o ∧ ∃ m f, G.2 o = some (.inr (.byte, m, .inl f)) ∧ vp_in j m ∧ X rc rs n ls (.int (f j.toNatClampNeg) :: r) G else False
    | _ => False)
  | 25 => (match st with
    | .int k :: .int dp :: .ref q :: .int sp :: .ref o :: r => bif Nat.ble (gCat r) 8 then q < gRB ∧ o < gRB ∧ ∃ ty m0 m1 f g ka da sa, G.2 o = some (.inr (ty, m0, .inl f)) ∧ G.2 q = some (.inr (ty, m1, .inl g)) ∧ (ty = .int ∨ ty = .boolean ∧ ∀ i, f i = nI 0 ∨ f i = nI 1) ∧ k = nI ka ∧ dp = nI da ∧ sp = nI sa ∧ ka < 2 ^ 31 ∧ da < 2 ^ 31 ∧ sa < 2 ^ 31 ∧ sa + ka ≤ m0 ∧ da + ka ≤ m1 ∧ X rc rs n ls r (gU G q (.inr (ty, m1, .inl (va_cpy f g sa da ka)))) else False
    | _ => False)
  | 26 => (match st with
    | .ref _ :: r => bif Nat.ble (gCat r) 8 then X rc rs n ls r G else False
    | _ => False)
  | _ => False
/-- the receiver is an object of the method's class -/
def gRcv (cls : Nat → Nat) (e a b : Nat) (st : List Value) (G : GH) : Prop := bif Nat.ble 20 e then True else match st.drop (b - 1) with
  | .ref o :: _ => o < gRB ∧ ∃ fs, G.2 o = some (.inl (cls a, fs))
  | _ => False
def stepG (S : GS) (exc : Nat → String) (blk : Nat → List Value) (cls : Nat → Nat) (T : Nat → Option GE) (hh : GHd) (C : Nat → Nat → Nat → List Value → GH → GQ → Prop) (X : GX) (Q : GQ) (rc rs pc : Nat) (ls : GL) (st : List Value) (G : GH) : Prop :=
  match T pc with
  | none => False
  | some (i, n, a, b, c, d, e) =>
    match i with
    | .iconst _ | .bipush _ | .sipush _ => X rc rs n ls (.int (gK b a) :: st) G
    | .ldc _ | .ldc_w _ => (match e with
      | 0 => X rc rs n ls (.int (gK b a) :: st) G
      | _ => X rc rs n ls (.ref a :: st) G)
    | .lconst k => X rc rs n ls (.long (Int64.ofNat (k : Nat)) :: st) G
    | .fconst _ => X rc rs n ls (.float FP.fconst0 :: st) G
    | .dconst _ => X rc rs n ls (.double FP.dconst0 :: st) G
    | .iload_n k => gLdI ls k (fun x => X rc rs n ls (.int x :: st) G)
    | .iload k => gLdI ls k (fun x => X rc rs n ls (.int x :: st) G)
    | .aload_n k => gLdA ls k (fun x => X rc rs n ls (.ref x :: st) G)
    | .aload k => gLdA ls k (fun x => X rc rs n ls (.ref x :: st) G)
    | .dload k => gLdD ls k (fun x => X rc rs n ls (.double x :: st) G)
    | .istore_n k => (match st with
      | .int x :: r => X rc rs n (gSt1 ls k (.int x)) r G
      | _ => False)
    | .istore k => (match st with
      | .int x :: r => X rc rs n (gSt1 ls k (.int x)) r G
      | _ => False)
    | .astore_n k => (match st with
      | .ref x :: r => X rc rs n (gSt1 ls k (.ref x)) r G
      | _ => False)
    | .astore k => (match st with
      | .ref x :: r => X rc rs n (gSt1 ls k (.ref x)) r G
      | _ => False)
    | .dstore k => (match st with
      | .double x :: r => X rc rs n (gSt2 ls k (.double x)) r G
      | _ => False)
    | .iinc k _ => gLdI ls k (fun x => X rc rs n (gSt1 ls k (.int (gInc x b a))) st G)
    | .iadd | .isub | .imul | .iand | .ior | .ishl | .ishr | .iushr | .idiv | .irem => (match st with
      | .int y :: .int x :: r => gArith i x y (fun v => X rc rs n ls (.int v :: r) G)
      | _ => False)
    | .ineg => (match st with
      | .int x :: r => X rc rs n ls (.int (-x) :: r) G
      | _ => False)
    | .i2l => (match st with
      | .int x :: r => X rc rs n ls (.long x.toInt64 :: r) G
      | _ => False)
    | .i2d => (match st with
      | .int x :: r => X rc rs n ls (.double (FP.i2d x) :: r) G
      | _ => False)
    | .i2f => (match st with
      | .int x :: r => X rc rs n ls (.float (FP.i2f x) :: r) G
      | _ => False)
    | .f2d => (match st with
      | .float x :: r => vf_n64 (FP.f2d x) ∧ X rc rs n ls (.double (FP.f2d x) :: r) G
      | _ => False)
    | .ddiv => (match st with
      | .double y :: .double x :: r => vf_n64 (FP.ddiv x y) ∧ X rc rs n ls (.double (FP.ddiv x y) :: r) G
      | _ => False)
    | .fdiv => (match st with
      | .float y :: .float x :: r => vf_n32 (FP.fdiv x y) ∧ X rc rs n ls (.float (FP.fdiv x y) :: r) G
      | _ => False)
    | .lcmp => (match st with
      | .long y :: .long x :: r => X rc rs n ls (.int (lg_cmp x y) :: r) G
      | _ => False)
    | .dcmp op => (match st with
      | .double y :: .double x :: r => X rc rs n ls (.int (Op.cmpValue (FP.dcmp x y) op) :: r) G
      | _ => False)
    | .pop => (match st with
      | .int _ :: r => X rc rs n ls r G
      | .ref _ :: r => X rc rs n ls r G
      | _ => False)
    | .dup => (match st with
      | .int x :: r => X rc rs n ls (.int x :: .int x :: r) G
      | .ref x :: r => X rc rs n ls (.ref x :: .ref x :: r) G
      | _ => False)
    | .dup2 => (match st with
      | .int y :: .ref x :: r => X rc rs n ls (.int y :: .ref x :: .int y :: .ref x :: r) G
      | _ => False)
    | .ifCond cd _ => (match st with
      | .int x :: r => gCond cd x (nI 0) (X rc rs a ls r G) (X rc rs n ls r G)
      | _ => False)
    | .if_icmp cd _ => (match st with
      | .int y :: .int x :: r => gCond cd x y (X rc rs a ls r G) (X rc rs n ls r G)
      | _ => False)
    | .goto _ => X rc rs a ls st G
    | .tableswitch _ lo hi os => (match st with
      | .int x :: r => ((x.toInt < lo ∨ hi < x.toInt) → X rc rs a ls r G) ∧ gSw (fun t => X rc rs t ls r G) pc x lo os.toList
      | _ => False)
    | .getfield _ => (match st with
      | .ref o :: r => (match c with
        | 0 => ∃ fs x, G.2 o = some (.inl (a, fs)) ∧ fs[b]? = some (.int x) ∧ X rc rs n ls (.int x :: r) G
        | _ => ∃ fs y, G.2 o = some (.inl (a, fs)) ∧ fs[b]? = some (.ref y) ∧ X rc rs n ls (.ref y :: r) G)
      | _ => False)
    | .putfield _ => (match st with
      | v :: .ref o :: r => o < gRB ∧ ∃ fs, G.2 o = some (.inl (a, fs)) ∧ gFit c v ∧ X rc rs n ls r (gU G o (.inl (a, fs.set b v)))
      | _ => False)
    | .getstatic _ => X rc rs n ls (.ref a :: st) G
    | .iaload => (match st with
      | .int j :: .ref o :: r => ∃ m f, G.2 o = some (.inr (.int, m, .inl f)) ∧ vp_in j m ∧ X rc rs n ls (.int (f j.toNatClampNeg) :: r) G
      | _ => False)
    | .baload => (match st with
      | .int j :: .ref o :: r => o < gRB ∧ ∃ m f, G.2 o = some (.inr (.boolean, m, .inl f)) ∧ vp_in j m ∧ X rc rs n ls (.int (f j.toNatClampNeg) :: r) G
      | _ => False)
    | .laload => (match st with
      | .int j :: .ref o :: r => o < gRB ∧ ∃ m f, G.2 o = some (.inr (.long, m, .inr (.inl f))) ∧ vp_in j m ∧ X rc rs n ls (.long (f j.toNatClampNeg) :: r) G
      | _ => False)
    | .aaload => (match st with
      | .int j :: .ref o :: r => o < gRB ∧ ∃ m f y, G.2 o = some (.inr (.object "TrunkDuel$State", m, .inr (.inr (.inr (.inr f))))) ∧ vp_in j m ∧ f j.toNatClampNeg = some y ∧ X rc rs n ls (.ref y :: r) G
      | _ => False)
    | .iastore => (match st with
      | .int x :: .int j :: .ref o :: r => o < gRB ∧ ∃ m f, G.2 o = some (.inr (.int, m, .inl f)) ∧ vp_in j m ∧ X rc rs n ls r (gU G o (.inr (.int, m, .inl (upd f j.toNatClampNeg x))))
      | _ => False)
    | .bastore => (match st with
      | .int x :: .int j :: .ref o :: r => o < gRB ∧ (x = nI 0 ∨ x = nI 1) ∧ ∃ m f, G.2 o = some (.inr (.boolean, m, .inl f)) ∧ vp_in j m ∧ X rc rs n ls r (gU G o (.inr (.boolean, m, .inl (upd f j.toNatClampNeg x))))
      | _ => False)
    | .lastore => (match st with
      | .long x :: .int j :: .ref o :: r => o < gRB ∧ ∃ m f, G.2 o = some (.inr (.long, m, .inr (.inl f))) ∧ vp_in j m ∧ X rc rs n ls r (gU G o (.inr (.long, m, .inr (.inl (vp_updL f j.toNatClampNeg x)))))
      | _ => False)
    | .aastore => (match st with
      | .ref y :: .int j :: .ref o :: r => o < gRB ∧ y < gRB ∧ ∃ m f fs, G.2 o = some (.inr (.object "TrunkDuel$State", m, .inr (.inr (.inr (.inr f))))) ∧ G.2 y = some (.inl (8, fs)) ∧ vp_in j m ∧ X rc rs n ls r (gU G o (.inr (.object "TrunkDuel$State", m, .inr (.inr (.inr (.inr (va_up f j.toNatClampNeg (some y))))))))
      | _ => False)
    | .arraylength => (match st with
      | .ref o :: r => ∃ m f, G.2 o = some (.inr (.int, m, .inl f)) ∧ m < 2 ^ 31 ∧ X rc rs n ls (.int (nI m) :: r) G
      | _ => False)
    | .newarray ty => (match st with
      | .int j :: r => 1 ≤ rc ∧ 0 < G.1 ∧ G.1 < gRB ∧ ∃ m, j = nI m ∧ m ≤ 100000 ∧ m ≤ rs ∧ (match ty with
        | .int => X (rc - 1) (rs - m) n ls (.ref G.1 :: r) (gPush G (.inr (.int, m, .inl fun _ => 0)))
        | .boolean => X (rc - 1) (rs - m) n ls (.ref G.1 :: r) (gPush G (.inr (.boolean, m, .inl fun _ => 0)))
        | .long => X (rc - 1) (rs - m) n ls (.ref G.1 :: r) (gPush G (.inr (.long, m, .inr (.inl fun _ => 0))))
        | _ => False)
      | _ => False)
    | .anewarray _ => (match st with
      | .int j :: r => 1 ≤ rc ∧ 0 < G.1 ∧ G.1 < gRB ∧ ∃ m, j = nI m ∧ m ≤ 100000 ∧ m ≤ rs ∧ X (rc - 1) (rs - m) n ls (.ref G.1 :: r) (gPush G (.inr (.object "TrunkDuel$State", m, .inr (.inr (.inr (.inr fun _ => none))))))
      | _ => False)
    | .new _ => (match e with
      | 0 => 1 ≤ rc ∧ b ≤ rs ∧ 0 < G.1 ∧ G.1 < gRB ∧ X (rc - 1) (rs - b) n ls (.ref G.1 :: st) (gPush G (.inl (a, blk a)))
      | _ => 1 ≤ rc ∧ 6 ≤ rs ∧ (bif Nat.ble (gCat st) 8 then Q.2.2.2.2.2 (exc a) (gDirty G) else False))
    | .invokevirtual _ | .invokespecial _ => gRcv cls e a b st G ∧ gInv C X Q S hh rc rs pc ls st G n a b c d e
    | .invokestatic _ => gInv C X Q S hh rc rs pc ls st G n a b c d e
    | .ireturn => (match st with
      | [.int x] => (match a with
        | 0 => Q.1 x G
        | _ => (x = nI 0 ∨ x = nI 1) ∧ Q.1 x G)
      | _ => False)
    | .areturn => (match st with
      | [.ref x] => Q.2.2.1 x G
      | _ => False)
    | .dreturn => (match st with
      | [.double x] => Q.2.2.2.1 x G
      | _ => False)
    | .freturn => (match st with
      | [.float x] => Q.2.2.2.2.1 x G
      | _ => False)
    | .return_ => (match st with
      | [] => Q.2.1 G
      | _ => False)
    | _ => False
end
section
/-! ===== the ghost machine's laws: monotone; the least predicate closed under its steps; blocks of steps ===== -/
theorem gLdI_mono {ls : GL} {k : Nat} {K K' : Int32 → Prop} (h : ∀ x, K x → K' x) : gLdI ls k K → gLdI ls k K' := by
  unfold gLdI; split
  · exact h _
  · exact id
theorem gLdA_mono {ls : GL} {k : Nat} {K K' : Nat → Prop} (h : ∀ x, K x → K' x) : gLdA ls k K → gLdA ls k K' := by
  unfold gLdA; split
  · exact h _
  · exact id
theorem gLdD_mono {ls : GL} {k : Nat} {K K' : UInt64 → Prop} (h : ∀ x, K x → K' x) : gLdD ls k K → gLdD ls k K' := by
  unfold gLdD; split
  · exact h _
  · exact id
theorem gIte_mono {c : Prop} [Decidable c] {A B A' B' : Prop} (h1 : A → A') (h2 : B → B') : (if c then A else B) → (if c then A' else B') := by
  split
  · exact h1
  · exact h2
theorem gBif_mono {c : Bool} {A B A' B' : Prop} (h1 : A → A') (h2 : B → B') : (bif c then A else B) → (bif c then A' else B') := by
  cases c
  · exact h2
  · exact h1
theorem gCond_mono {cd : Jvm.ClassFile.Cond} {x y : Int32} {A B A' B' : Prop} (h1 : A → A') (h2 : B → B') : gCond cd x y A B → gCond cd x y A' B' := by
  cases cd
  · exact gIte_mono h1 h2
  · exact gIte_mono h2 h1
  · exact gIte_mono h1 h2
  · exact gIte_mono h2 h1
  · exact gIte_mono h1 h2
  · exact gIte_mono h2 h1
theorem gArith_mono {i : Instr} {x y : Int32} {K K' : Int32 → Prop} (h : ∀ x, K x → K' x) : gArith i x y K → gArith i x y K' := by
  unfold gArith; split
  all_goals first | exact id | exact h _ | exact And.imp_right (h _)
theorem gSw_mono {X X' : Nat → Prop} {pc : Nat} {x : Int32} (h : ∀ t, X t → X' t) : ∀ (os : List Int) (lo : Int), gSw X pc x lo os → gSw X' pc x lo os
  | [], _ => id
  | o :: os, lo => fun q => ⟨fun e => h _ (q.1 e), gSw_mono h os (lo + 1) q.2⟩
theorem gHand_mono {X X' : GX} {KX KX' : String → GH → Prop} {rc rs pc : Nat} {ls : GL} {E : String} {G : GH} (hX : ∀ rc rs pc ls st G, X rc rs pc ls st G → X' rc rs pc ls st G) (hK : ∀ E G, KX E G → KX' E G) : ∀ hh : GHd, gHand X KX rc rs pc ls E G hh → gHand X' KX' rc rs pc ls E G hh
  | [] => hK E G
  | (s, t, h, k, nm) :: r => gBif_mono (gIte_mono (hX _ _ _ _ _ _) (gHand_mono hX hK r)) (gHand_mono hX hK r)
section Mono
variable {S : GS} {exc : Nat → String} {blk : Nat → List Value} {cls : Nat → Nat} {T : Nat → Option GE} {hh : GHd} {C C' : Nat → Nat → Nat → List Value → GH → GQ → Prop} {X X' : GX} {Q Q' : GQ}
theorem gInv_mono (hC : ∀ m c d as G K K', C m c d as G K → gLe K K' → C' m c d as G K') (hX : ∀ rc rs pc ls st G, X rc rs pc ls st G → X' rc rs pc ls st G) (hQ : gLe Q Q') (rc rs pc : Nat) (ls : GL) (st : List Value) (G : GH) (n a b c d e : Nat) :
    gInv C X Q S hh rc rs pc ls st G n a b c d e → gInv C' X' Q' S hh rc rs pc ls st G n a b c d e := by
  have no : ∀ (E : String) (G : GH), gNo E G → gNo E G := fun _ _ h => h
  have kx : ∀ (rc rs : Nat) (E : String) (G : GH), gHand X Q.2.2.2.2.2 rc rs pc ls E G hh → gHand X' Q'.2.2.2.2.2 rc rs pc ls E G hh := fun rc rs E G => gHand_mono hX hQ.2.2.2.2.2 hh
  have f0 : ∀ G : GH, False → False := fun _ h => h
  unfold gInv
  split
  · exact gBif_mono (fun ⟨c1, d1, h1, h2, h⟩ => ⟨c1, d1, h1, h2, hC _ _ _ _ _ _ _ h ⟨fun x G => hX _ _ _ _ _ _, f0, fun _ _ h => h, fun _ _ h => h, fun _ _ h => h, no⟩⟩) id
  · exact gBif_mono (fun ⟨c1, d1, h1, h2, h⟩ => ⟨c1, d1, h1, h2, hC _ _ _ _ _ _ _ h ⟨fun _ _ h => h, fun G => hX _ _ _ _ _ _, fun _ _ h => h, fun _ _ h => h, fun _ _ h => h, no⟩⟩) id
  · exact gBif_mono (fun ⟨c1, d1, h1, h2, h⟩ => ⟨c1, d1, h1, h2, hC _ _ _ _ _ _ _ h ⟨fun _ _ h => h, f0, fun x G => hX _ _ _ _ _ _, fun _ _ h => h, fun _ _ h => h, fun _ _ h => h⟩⟩) id
  · exact gBif_mono (fun ⟨c1, d1, h1, h2, h⟩ => ⟨c1, d1, h1, h2, hC _ _ _ _ _ _ _ h ⟨fun _ _ h => h, f0, fun _ _ h => h, fun x G => hX _ _ _ _ _ _, fun _ _ h => h, fun _ _ h => h⟩⟩) id
  · exact gBif_mono (fun ⟨c1, d1, h1, h2, h⟩ => ⟨c1, d1, h1, h2, hC _ _ _ _ _ _ _ h ⟨fun _ _ h => h, f0, fun _ _ h => h, fun _ _ h => h, fun x G => hX _ _ _ _ _ _, fun _ _ h => h⟩⟩) id
  · exact gBif_mono (fun ⟨c1, d1, h1, h2, h⟩ => ⟨c1, d1, h1, h2, hC _ _ _ _ _ _ _ h ⟨fun x G => hX _ _ _ _ _ _, f0, fun _ _ h => h, fun _ _ h => h, fun _ _ h => h, kx _ _⟩⟩) id
  · exact gBif_mono (fun ⟨c1, d1, h1, h2, h⟩ => ⟨c1, d1, h1, h2, hC _ _ _ _ _ _ _ h ⟨fun _ _ h => h, fun G => hX _ _ _ _ _ _, fun _ _ h => h, fun _ _ h => h, fun _ _ h => h, kx _ _⟩⟩) id
  · split
    · exact gBif_mono (hX _ _ _ _ _ _) id
    · exact id
  · split
    · exact gBif_mono (hX _ _ _ _ _ _) id
    · exact id
  · split
    · exact gBif_mono (hX _ _ _ _ _ _) id
    · exact id
  · split
    · exact gBif_mono (fun ⟨tx, h1, h2⟩ => ⟨tx, h1, hX _ _ _ _ _ _ h2⟩) id
    · exact id
  · split
    · exact gBif_mono (fun ⟨tx, k, ch, h1, h2, h3, h4⟩ => ⟨tx, k, ch, h1, h2, h3, hX _ _ _ _ _ _ h4⟩) id
    · exact id
  · split
    · exact gBif_mono (fun ⟨h0, m, f, h1, h2⟩ => ⟨h0, m, f, h1, hX _ _ _ _ _ _ h2⟩) id
    · exact id
  · split
    · exact gBif_mono (fun ⟨h0, m, f, h1, h2, h3⟩ => ⟨h0, m, f, h1, h2, hX _ _ _ _ _ _ h3⟩) id
    · exact id
  · split
    · exact gBif_mono (fun ⟨h0, h00, ty, m0, m1, f, g, ka, da, sa, h1, h2, h3, h4, h5, h6, h7, h8, h9, h10, h11, h12⟩ => ⟨h0, h00, ty, m0, m1, f, g, ka, da, sa, h1, h2, h3, h4, h5, h6, h7, h8, h9, h10, h11, hX _ _ _ _ _ _ h12⟩) id
    · exact id
  · split
    · exact gBif_mono (hX _ _ _ _ _ _) id
    · exact id
  · exact id
set_option maxHeartbeats 4000000 in
theorem stepG_mono (hC : ∀ m c d as G K K', C m c d as G K → gLe K K' → C' m c d as G K') (hX : ∀ rc rs pc ls st G, X rc rs pc ls st G → X' rc rs pc ls st G) (hQ : gLe Q Q') (rc rs pc : Nat) (ls : GL) (st : List Value) (G : GH) :
    stepG S exc blk cls T hh C X Q rc rs pc ls st G → stepG S exc blk cls T hh C' X' Q' rc rs pc ls st G := by
  unfold stepG
  cases T pc with
  | none => exact id
  | some E =>
    obtain ⟨i, n, a, b, c, d, e⟩ := E
    cases i with
    | iconst _ => exact hX _ _ _ _ _ _
    | bipush _ => exact hX _ _ _ _ _ _
    | sipush _ => exact hX _ _ _ _ _ _
    | lconst _ => exact hX _ _ _ _ _ _
    | fconst _ => exact hX _ _ _ _ _ _
    | dconst _ => exact hX _ _ _ _ _ _
    | ldc _ =>
      dsimp only
      split
      · exact hX _ _ _ _ _ _
      · exact hX _ _ _ _ _ _
    | ldc_w _ =>
      dsimp only
      split
      · exact hX _ _ _ _ _ _
      · exact hX _ _ _ _ _ _
    | iload_n _ => exact gLdI_mono fun x => hX _ _ _ _ _ _
    | iload _ => exact gLdI_mono fun x => hX _ _ _ _ _ _
    | aload_n _ => exact gLdA_mono fun x => hX _ _ _ _ _ _
    | aload _ => exact gLdA_mono fun x => hX _ _ _ _ _ _
    | dload _ => exact gLdD_mono fun x => hX _ _ _ _ _ _
    | iinc _ _ => exact gLdI_mono fun x => hX _ _ _ _ _ _
    | istore_n _ | istore _ | astore_n _ | astore _ | dstore _ | ineg | i2l | i2d | i2f | lcmp | dcmp _ | pop | dup | dup2 =>
      dsimp only
      split
      all_goals first | exact id | exact hX _ _ _ _ _ _
    | f2d | ddiv | fdiv =>
      dsimp only
      split
      all_goals first | exact id | exact And.imp_right (hX _ _ _ _ _ _)
    | iadd | isub | imul | iand | ior | ishl | ishr | iushr | idiv | irem =>
      dsimp only
      split
      · exact gArith_mono fun x => hX _ _ _ _ _ _
      · exact id
    | ifCond _ _ =>
      dsimp only
      split
      · exact gCond_mono (hX _ _ _ _ _ _) (hX _ _ _ _ _ _)
      · exact id
    | if_icmp _ _ =>
      dsimp only
      split
      · exact gCond_mono (hX _ _ _ _ _ _) (hX _ _ _ _ _ _)
      · exact id
    | goto _ => exact hX _ _ _ _ _ _
    | tableswitch _ _ _ _ =>
      dsimp only
      split
      · exact fun q => ⟨fun e => hX _ _ _ _ _ _ (q.1 e), gSw_mono (fun t => hX _ _ _ _ _ _) _ _ q.2⟩
      · exact id
    | getfield _ =>
      dsimp only
      split
      · split
        · exact fun ⟨fs, x, h1, h2, h3⟩ => ⟨fs, x, h1, h2, hX _ _ _ _ _ _ h3⟩
        · exact fun ⟨fs, x, h1, h2, h3⟩ => ⟨fs, x, h1, h2, hX _ _ _ _ _ _ h3⟩
      · exact id
    | putfield _ =>
      dsimp only
      split
      · exact fun ⟨h0, fs, h1, h2, h3⟩ => ⟨h0, fs, h1, h2, hX _ _ _ _ _ _ h3⟩
      · exact id
    | getstatic _ => exact hX _ _ _ _ _ _
    | iaload =>
      dsimp only
      split
      · exact fun ⟨m, f, h1, h2, h3⟩ => ⟨m, f, h1, h2, hX _ _ _ _ _ _ h3⟩
      · exact id
    | baload | laload =>
      dsimp only
      split
      · exact fun ⟨h0, m, f, h1, h2, h3⟩ => ⟨h0, m, f, h1, h2, hX _ _ _ _ _ _ h3⟩
      · exact id
    | aaload =>
      dsimp only
      split
      · exact fun ⟨h0, m, f, y, h1, h2, h3, h4⟩ => ⟨h0, m, f, y, h1, h2, h3, hX _ _ _ _ _ _ h4⟩
      · exact id
    | iastore | lastore =>
      dsimp only
      split
      · exact fun ⟨h0, m, f, h1, h2, h3⟩ => ⟨h0, m, f, h1, h2, hX _ _ _ _ _ _ h3⟩
      · exact id
    | bastore =>
      dsimp only
      split
      · exact fun ⟨h0, h00, m, f, h1, h2, h3⟩ => ⟨h0, h00, m, f, h1, h2, hX _ _ _ _ _ _ h3⟩
      · exact id
    | aastore =>
      dsimp only
      split
      · exact fun ⟨h0, h00, m, f, fs, h1, h2, h3, h4⟩ => ⟨h0, h00, m, f, fs, h1, h2, h3, hX _ _ _ _ _ _ h4⟩
      · exact id
    | arraylength =>
      dsimp only
      split
      · exact fun ⟨m, f, h1, h2, h3⟩ => ⟨m, f, h1, h2, hX _ _ _ _ _ _ h3⟩
      · exact id
    | newarray ty =>
      dsimp only
      split
      · intro ⟨h1, h2, h3, m, h4, h5, h6, h7⟩
        refine ⟨h1, h2, h3, m, h4, h5, h6, ?_⟩
        cases ty <;> first | exact h7.elim | exact hX _ _ _ _ _ _ h7
      · exact id
    | anewarray _ =>
      dsimp only
      split
      · exact fun ⟨h1, h2, h3, m, h4, h5, h6, h7⟩ => ⟨h1, h2, h3, m, h4, h5, h6, hX _ _ _ _ _ _ h7⟩
      · exact id
    | new _ =>
      dsimp only
      split
      · exact fun ⟨h1, h2, h3, h4, h5⟩ => ⟨h1, h2, h3, h4, hX _ _ _ _ _ _ h5⟩
      · exact fun ⟨h1, h2, h3⟩ => ⟨h1, h2, gBif_mono (hQ.2.2.2.2.2 _ _) id h3⟩
    | invokevirtual _ => exact And.imp_right (gInv_mono hC hX hQ _ _ _ _ _ _ _ _ _ _ _ _)
    | invokestatic _ => exact gInv_mono hC hX hQ _ _ _ _ _ _ _ _ _ _ _ _
    | invokespecial _ => exact And.imp_right (gInv_mono hC hX hQ _ _ _ _ _ _ _ _ _ _ _ _)
    | ireturn =>
      dsimp only
      split
      · split
        · exact hQ.1 _ _
        · exact And.imp_right (hQ.1 _ _)
      · exact id
    | areturn =>
      dsimp only
      split
      · exact hQ.2.2.1 _ _
      · exact id
    | dreturn =>
      dsimp only
      split
      · exact hQ.2.2.2.1 _ _
      · exact id
    | freturn =>
      dsimp only
      split
      · exact hQ.2.2.2.2.1 _ _
      · exact id
    | return_ =>
      dsimp only
      split
      · exact hQ.2.1 _
      · exact id
    | _ => exact id
end Mono
end
section
/-! ===== the program, by wip/p60/gen_tables.py out of claim/NAMES.whole.lean.txt and claim/Statement.lean ===== -/
abbrev M_Ch_init : Nat := 0
abbrev M_Ch_search : Nat := 1
abbrev M_Ch_searchShape : Nat := 2
abbrev M_Ch_take : Nat := 3
abbrev M_Cr_init : Nat := 4
abbrev M_Cr_mostFor : Nat := 5
abbrev M_Cr_countShape : Nat := 6
abbrev M_Cr_countEdge : Nat := 7
abbrev M_Fp_init : Nat := 8
abbrev M_Fp_turn : Nat := 9
abbrev M_Fp_moveTo : Nat := 10
abbrev M_Fp_startAll : Nat := 11
abbrev M_Fp_advance : Nat := 12
abbrev M_Fp_columnOf : Nat := 13
abbrev M_Fp_rowOf : Nat := 14
abbrev M_Fp_edgeColumnOf : Nat := 15
abbrev M_Fp_edgeRowOf : Nat := 16
abbrev M_Fp_sideOf : Nat := 17
abbrev M_Fp_findEdges : Nat := 18
abbrev M_Hi_init : Nat := 19
abbrev M_Hi_remember : Nat := 20
abbrev M_Hi_bringBack : Nat := 21
abbrev M_Pi_init : Nat := 22
abbrev M_Pi_copyFrom : Nat := 23
abbrev M_Pi_add : Nat := 24
abbrev M_Pi_has : Nat := 25
abbrev M_Pi_shapeOf : Nat := 26
abbrev M_Pi_rotationOf : Nat := 27
abbrev M_Pi_anchorColumnOf : Nat := 28
abbrev M_Pi_anchorRowOf : Nat := 29
abbrev M_Pi_ownerOf : Nat := 30
abbrev M_Pi_pointsOf : Nat := 31
abbrev M_Pl_init : Nat := 32
abbrev M_Pl_clear : Nat := 33
abbrev M_Pl_copyFrom : Nat := 34
abbrev M_Pl_addLetter : Nat := 35
abbrev M_Pl_hasNameOf : Nat := 36
abbrev M_Pl_supplyOf : Nat := 37
abbrev M_Pl_setSupply : Nat := 38
abbrev M_Rd_init : Nat := 39
abbrev M_Rd_hasRoom : Nat := 40
abbrev M_Rd_writeText : Nat := 41
abbrev M_Rd_writeFour : Nat := 42
abbrev M_Rd_writeByte : Nat := 43
abbrev M_Rd_startSetup : Nat := 44
abbrev M_Rd_readSetup : Nat := 45
abbrev M_Rd_readCommands : Nat := 46
abbrev M_Rd_readSize : Nat := 47
abbrev M_Rd_readBlocks : Nat := 48
abbrev M_Rd_readFreeStraps : Nat := 49
abbrev M_Rd_readPlayer : Nat := 50
abbrev M_Rd_readName : Nat := 51
abbrev M_Rd_readPiece : Nat := 52
abbrev M_Rd_readStrap : Nat := 53
abbrev M_Rd_readEdge : Nat := 54
abbrev M_Rd_shapeOfToken : Nat := 55
abbrev M_Rd_expectNumber : Nat := 56
abbrev M_Rd_endStatement : Nat := 57
abbrev M_Rd_fail : Nat := 58
abbrev M_Rd_nextToken : Nat := 59
abbrev M_Rd_endOfRun : Nat := 60
abbrev M_Rd_valueOfToken : Nat := 61
abbrev M_Rd_wordIs : Nat := 62
abbrev M_Rd_byteAt : Nat := 63
abbrev M_Rd_clear : Nat := 64
abbrev M_Rg_init : Nat := 65
abbrev M_Rg_survey : Nat := 66
abbrev M_Rg_sizeOf : Nat := 67
abbrev M_Rg_sizeAt : Nat := 68
abbrev M_Rg_spreadFrom : Nat := 69
abbrev M_Rg_reach : Nat := 70
abbrev M_St_init : Nat := 71
abbrev M_St_clear : Nat := 72
abbrev M_St_copyFrom : Nat := 73
abbrev M_St_isFinished : Nat := 74
abbrev M_St_playerOf : Nat := 75
abbrev M_St_allowsPiece : Nat := 76
abbrev M_St_putPiece : Nat := 77
abbrev M_St_allowsStrap : Nat := 78
abbrev M_St_putStrap : Nat := 79
abbrev M_St_allowsPass : Nat := 80
abbrev M_St_skipTurn : Nat := 81
abbrev M_St_countMoves : Nat := 82
abbrev M_St_endTurn : Nat := 83
abbrev M_Tk_init : Nat := 84
abbrev M_Tk_clear : Nat := 85
abbrev M_Tk_copyFrom : Nat := 86
abbrev M_Tk_holds : Nat := 87
abbrev M_Tk_holdsEdge : Nat := 88
abbrev M_Tk_cellAt : Nat := 89
abbrev M_Tk_setCell : Nat := 90
abbrev M_Tk_strapAt : Nat := 91
abbrev M_Tk_setStrap : Nat := 92
abbrev M_Tk_cellBeyond : Nat := 93
abbrev M_Tk_isEdgeBlocked : Nat := 94
abbrev M_Tk_isEdgeCovered : Nat := 95
abbrev M_Tk_countEmptyIn : Nat := 96
abbrev M_Tk_countCells : Nat := 97
abbrev M_Tk_countCovered : Nat := 98
abbrev M_Tk_countStraps : Nat := 99
abbrev M_Tk_misfitOf : Nat := 100
abbrev M_Tk_isCrossedBy : Nat := 101
abbrev M_Tk_findNext : Nat := 102
abbrev M_Tk_countFitting : Nat := 103
abbrev M_Tk_pointsOf : Nat := 104
abbrev M_TD_init : Nat := 105
abbrev M_TD_append : Nat := 106
abbrev M_TD_truncateInput : Nat := 107
abbrev M_TD_load : Nat := 108
abbrev M_TD_place : Nat := 109
abbrev M_TD_fastenStrap : Nat := 110
abbrev M_TD_pass : Nat := 111
abbrev M_TD_undo : Nat := 112
abbrev M_TD_columns : Nat := 113
abbrev M_TD_rows : Nat := 114
abbrev M_TD_emptyCells : Nat := 115
abbrev M_TD_pieceCount : Nat := 116
abbrev M_TD_strapCount : Nat := 117
abbrev M_TD_completeRows : Nat := 118
abbrev M_TD_undoableChanges : Nat := 119
abbrev M_TD_isBlocked : Nat := 120
abbrev M_TD_pieceAt : Nat := 121
abbrev M_TD_hasStrap : Nat := 122
abbrev M_TD_emptyInRow : Nat := 123
abbrev M_TD_pieceShape : Nat := 124
abbrev M_TD_pieceRotation : Nat := 125
abbrev M_TD_pieceColumn : Nat := 126
abbrev M_TD_pieceRow : Nat := 127
abbrev M_TD_pieceOwner : Nat := 128
abbrev M_TD_piecePoints : Nat := 129
abbrev M_TD_playerToMove : Nat := 130
abbrev M_TD_isOver : Nat := 131
abbrev M_TD_leader : Nat := 132
abbrev M_TD_score : Nat := 133
abbrev M_TD_supply : Nat := 134
abbrev M_TD_strapsLeft : Nat := 135
abbrev M_TD_fits : Nat := 136
abbrev M_TD_misfitReason : Nat := 137
abbrev M_TD_pointsFor : Nat := 138
abbrev M_TD_mobility : Nat := 139
abbrev M_TD_mobilityAfter : Nat := 140
abbrev M_TD_bestShape : Nat := 141
abbrev M_TD_bestRotation : Nat := 142
abbrev M_TD_bestColumn : Nat := 143
abbrev M_TD_bestRow : Nat := 144
abbrev M_TD_bestStrapEffect : Nat := 145
abbrev M_TD_regionCount : Nat := 146
abbrev M_TD_largestRegion : Nat := 147
abbrev M_TD_regionSize : Nat := 148
abbrev M_TD_isDead : Nat := 149
abbrev M_TD_deadCells : Nat := 150
abbrev M_TD_inconsistencies : Nat := 151
abbrev M_TD_aimAt : Nat := 152
abbrev M_TD_requireShape : Nat := 153
abbrev M_TD_requirePlayer : Nat := 154
abbrev M_TD_requireCell : Nat := 155
abbrev M_TD_requireEdge : Nat := 156
abbrev M_TD_requirePiece : Nat := 157
abbrev M_L_truncateInput : Nat := 158
abbrev M_L_place : Nat := 159
abbrev M_L_fastenStrap : Nat := 160
abbrev M_L_pass : Nat := 161
abbrev M_L_undo : Nat := 162
abbrev M_L_isBlocked : Nat := 163
abbrev M_L_pieceAt : Nat := 164
abbrev M_L_hasStrap : Nat := 165
abbrev M_L_emptyInRow : Nat := 166
abbrev M_L_pieceShape : Nat := 167
abbrev M_L_pieceRotation : Nat := 168
abbrev M_L_pieceColumn : Nat := 169
abbrev M_L_pieceRow : Nat := 170
abbrev M_L_pieceOwner : Nat := 171
abbrev M_L_piecePoints : Nat := 172
abbrev M_L_score : Nat := 173
abbrev M_L_supply : Nat := 174
abbrev M_L_strapsLeft : Nat := 175
abbrev M_L_fits : Nat := 176
abbrev M_L_misfitReason : Nat := 177
abbrev M_L_pointsFor : Nat := 178
abbrev M_L_mobility : Nat := 179
abbrev M_L_mobilityAfter : Nat := 180
abbrev M_L_regionSize : Nat := 181
abbrev M_L_isDead : Nat := 182
abbrev M_L_word : Nat := 183
abbrev M_L_write : Nat := 184
abbrev M_L_draw : Nat := 185
abbrev M_L_isSound : Nat := 186
abbrev M_L_moves : Nat := 187
abbrev M_L_places : Nat := 188
abbrev M_L_law : Nat := 189
def T_Ch_init_0 : List (Option GE) := [some (.aload_n 0, 1, 0, 0, 0, 0, 0), some (.invokespecial 3, 4, 0, 0, 0, 0, 26), none, none, some (.aload_n 0, 5, 0, 0, 0, 0, 0), some (.iconst (-1), 6, 1, 1, 0, 0, 0), some (.putfield 9, 9, 0, 0, 0, 0, 0), none, none, some (.aload_n 0, 10, 0, 0, 0, 0, 0), some (.iconst (-1), 11, 1, 1, 0, 0, 0), some (.putfield 15, 14, 0, 1, 0, 0, 0), none, none, some (.aload_n 0, 15, 0, 0, 0, 0, 0), some (.iconst (-1), 16, 1, 1, 0, 0, 0), some (.putfield 18, 19, 0, 2, 0, 0, 0), none, none, some (.aload_n 0, 20, 0, 0, 0, 0, 0), some (.iconst (-1), 21, 1, 1, 0, 0, 0), some (.putfield 21, 24, 0, 3, 0, 0, 0), none, none, some (.aload_n 0, 25, 0, 0, 0, 0, 0), some (.iconst (-1), 26, 1, 1, 0, 0, 0), some (.putfield 24, 29, 0, 4, 0, 0, 0), none, none, some (.return_, 30, 0, 0, 0, 0, 0)]
def T_Ch_init : List (List (Option GE)) := [T_Ch_init_0]
def T_Ch_search_0 : List (Option GE) := [some (.aload_n 0, 1, 0, 0, 0, 0, 0), some (.iconst (-1), 2, 1, 1, 0, 0, 0), some (.putfield 9, 5, 0, 0, 0, 0, 0), none, none, some (.aload_n 0, 6, 0, 0, 0, 0, 0), some (.iconst (-1), 7, 1, 1, 0, 0, 0), some (.putfield 15, 10, 0, 1, 0, 0, 0), none, none, some (.aload_n 0, 11, 0, 0, 0, 0, 0), some (.iconst (-1), 12, 1, 1, 0, 0, 0), some (.putfield 18, 15, 0, 2, 0, 0, 0), none, none, some (.aload_n 0, 16, 0, 0, 0, 0, 0), some (.iconst (-1), 17, 1, 1, 0, 0, 0), some (.putfield 21, 20, 0, 3, 0, 0, 0), none, none, some (.aload_n 0, 21, 0, 0, 0, 0, 0), some (.iconst (-1), 22, 1, 1, 0, 0, 0), some (.putfield 24, 25, 0, 4, 0, 0, 0), none, none, some (.aload_n 1, 26, 0, 0, 0, 0, 0), some (.invokevirtual 27, 29, 74, 1, 0, 0, 0), none, none, some (.ifCond .eq 4, 32, 33, 0, 0, 0, 0), none, none]
def T_Ch_search_1 : List (Option GE) := [some (.return_, 33, 0, 0, 0, 0, 0), some (.iconst 0, 34, 0, 0, 0, 0, 0), some (.istore_n 3, 35, 0, 0, 0, 0, 0), some (.iload_n 3, 36, 0, 0, 0, 0, 0), some (.iconst 5, 37, 5, 0, 0, 0, 0), some (.if_icmp .ge 34, 40, 71, 0, 0, 0, 0), none, none, some (.aload_n 1, 41, 0, 0, 0, 0, 0), some (.aload_n 1, 42, 0, 0, 0, 0, 0), some (.getfield 33, 45, 8, 4, 0, 0, 0), none, none, some (.invokevirtual 36, 48, 75, 2, 0, 0, 2), none, none, some (.iload_n 3, 49, 0, 0, 0, 0, 0), some (.invokevirtual 40, 52, 37, 2, 0, 0, 0), none, none, some (.ifCond .le 13, 55, 65, 0, 0, 0, 0), none, none, some (.aload_n 0, 56, 0, 0, 0, 0, 0), some (.iload_n 3, 57, 0, 0, 0, 0, 0), some (.aload_n 1, 58, 0, 0, 0, 0, 0), some (.getfield 46, 61, 8, 0, 1, 1, 0), none, none, some (.aload_n 2, 62, 0, 0, 0, 0, 0), some (.invokevirtual 50, 65, 2, 4, 0, 0, 1), none]
def T_Ch_search_2 : List (Option GE) := [none, some (.iinc 3 1, 68, 1, 0, 0, 0, 0), none, none, some (.goto (-33), 71, 35, 0, 0, 0, 0), none, none, some (.return_, 72, 0, 0, 0, 0, 0)]
def T_Ch_search : List (List (Option GE)) := [T_Ch_search_0, T_Ch_search_1, T_Ch_search_2]
def T_Ch_searchShape_0 : List (Option GE) := [some (.aload_n 3, 1, 0, 0, 0, 0, 0), some (.iload_n 1, 2, 0, 0, 0, 0, 0), some (.invokevirtual 54, 5, 11, 2, 0, 0, 1), none, none, some (.iconst 0, 6, 0, 0, 0, 0, 0), some (.istore 4, 8, 0, 0, 0, 0, 0), none, some (.iload 4, 10, 0, 0, 0, 0, 0), none, some (.sipush 256, 13, 256, 0, 0, 0, 0), none, none, some (.if_icmp .ge 27, 16, 40, 0, 0, 0, 0), none, none, some (.aload_n 2, 17, 0, 0, 0, 0, 0), some (.aload_n 3, 18, 0, 0, 0, 0, 0), some (.invokevirtual 60, 21, 102, 2, 0, 0, 0), none, none, some (.ifCond .eq 19, 24, 40, 0, 0, 0, 0), none, none, some (.aload_n 0, 25, 0, 0, 0, 0, 0), some (.aload_n 3, 26, 0, 0, 0, 0, 0), some (.aload_n 2, 27, 0, 0, 0, 0, 0), some (.aload_n 3, 28, 0, 0, 0, 0, 0), some (.invokevirtual 66, 31, 104, 2, 0, 0, 0), none, none, some (.invokevirtual 70, 34, 3, 3, 0, 0, 1)]
def T_Ch_searchShape_1 : List (Option GE) := [none, none, some (.iinc 4 1, 37, 1, 0, 0, 0, 0), none, none, some (.goto (-29), 40, 8, 0, 0, 0, 0), none, none, some (.return_, 41, 0, 0, 0, 0, 0)]
def T_Ch_searchShape : List (List (Option GE)) := [T_Ch_searchShape_0, T_Ch_searchShape_1]
def T_Ch_take_0 : List (Option GE) := [some (.iload_n 2, 1, 0, 0, 0, 0, 0), some (.aload_n 0, 2, 0, 0, 0, 0, 0), some (.getfield 24, 5, 0, 4, 0, 0, 0), none, none, some (.if_icmp .le 40, 8, 45, 0, 0, 0, 0), none, none, some (.aload_n 0, 9, 0, 0, 0, 0, 0), some (.iload_n 2, 10, 0, 0, 0, 0, 0), some (.putfield 24, 13, 0, 4, 0, 0, 0), none, none, some (.aload_n 0, 14, 0, 0, 0, 0, 0), some (.aload_n 1, 15, 0, 0, 0, 0, 0), some (.getfield 74, 18, 2, 0, 0, 0, 0), none, none, some (.putfield 9, 21, 0, 0, 0, 0, 0), none, none, some (.aload_n 0, 22, 0, 0, 0, 0, 0), some (.aload_n 1, 23, 0, 0, 0, 0, 0), some (.getfield 75, 26, 2, 1, 0, 0, 0), none, none, some (.putfield 15, 29, 0, 1, 0, 0, 0), none, none, some (.aload_n 0, 30, 0, 0, 0, 0, 0), some (.aload_n 1, 31, 0, 0, 0, 0, 0), some (.getfield 76, 34, 2, 2, 0, 0, 0)]
def T_Ch_take_1 : List (Option GE) := [none, none, some (.putfield 18, 37, 0, 2, 0, 0, 0), none, none, some (.aload_n 0, 38, 0, 0, 0, 0, 0), some (.aload_n 1, 39, 0, 0, 0, 0, 0), some (.getfield 77, 42, 2, 3, 0, 0, 0), none, none, some (.putfield 21, 45, 0, 3, 0, 0, 0), none, none, some (.return_, 46, 0, 0, 0, 0, 0)]
def T_Ch_take : List (List (Option GE)) := [T_Ch_take_0, T_Ch_take_1]
def T_Cr_init_0 : List (Option GE) := [some (.aload_n 0, 1, 0, 0, 0, 0, 0), some (.invokespecial 3, 4, 0, 0, 0, 0, 26), none, none, some (.aload_n 0, 5, 0, 0, 0, 0, 0), some (.sipush 128, 8, 128, 0, 0, 0, 0), none, none, some (.newarray .int, 10, 0, 0, 0, 0, 0), none, some (.putfield 9, 13, 1, 0, 1, 1, 0), none, none, some (.return_, 14, 0, 0, 0, 0, 0)]
def T_Cr_init : List (List (Option GE)) := [T_Cr_init_0]
def T_Cr_mostFor_0 : List (Option GE) := [some (.iconst 0, 1, 0, 0, 0, 0, 0), some (.istore 4, 3, 0, 0, 0, 0, 0), none, some (.iload 4, 5, 0, 0, 0, 0, 0), none, some (.sipush 128, 8, 128, 0, 0, 0, 0), none, none, some (.if_icmp .ge 17, 11, 25, 0, 0, 0, 0), none, none, some (.aload_n 0, 12, 0, 0, 0, 0, 0), some (.getfield 9, 15, 1, 0, 1, 1, 0), none, none, some (.iload 4, 17, 0, 0, 0, 0, 0), none, some (.iconst 0, 18, 0, 0, 0, 0, 0), some (.iastore, 19, 0, 0, 0, 0, 0), some (.iinc 4 1, 22, 1, 0, 0, 0, 0), none, none, some (.goto (-19), 25, 3, 0, 0, 0, 0), none, none, some (.iconst 0, 26, 0, 0, 0, 0, 0), some (.istore 4, 28, 0, 0, 0, 0, 0), none, some (.iload 4, 30, 0, 0, 0, 0, 0), none, some (.iconst 5, 31, 5, 0, 0, 0, 0), some (.if_icmp .ge 26, 34, 57, 0, 0, 0, 0)]
def T_Cr_mostFor_1 : List (Option GE) := [none, none, some (.aload_n 1, 35, 0, 0, 0, 0, 0), some (.iload 4, 37, 0, 0, 0, 0, 0), none, some (.invokevirtual 15, 40, 37, 2, 0, 0, 0), none, none, some (.ifCond .le 11, 43, 51, 0, 0, 0, 0), none, none, some (.aload_n 0, 44, 0, 0, 0, 0, 0), some (.iload 4, 46, 0, 0, 0, 0, 0), none, some (.aload_n 2, 47, 0, 0, 0, 0, 0), some (.aload_n 3, 48, 0, 0, 0, 0, 0), some (.invokevirtual 21, 51, 6, 4, 0, 0, 1), none, none, some (.iinc 4 1, 54, 1, 0, 0, 0, 0), none, none, some (.goto (-26), 57, 28, 0, 0, 0, 0), none, none, some (.iconst 0, 58, 0, 0, 0, 0, 0), some (.istore 4, 60, 0, 0, 0, 0, 0), none, some (.iconst 0, 61, 0, 0, 0, 0, 0), some (.istore 5, 63, 0, 0, 0, 0, 0), none, some (.iload 5, 65, 0, 0, 0, 0, 0)]
def T_Cr_mostFor_2 : List (Option GE) := [none, some (.sipush 128, 68, 128, 0, 0, 0, 0), none, none, some (.if_icmp .ge 23, 71, 91, 0, 0, 0, 0), none, none, some (.iload 4, 73, 0, 0, 0, 0, 0), none, some (.aload_n 0, 74, 0, 0, 0, 0, 0), some (.getfield 9, 77, 1, 0, 1, 1, 0), none, none, some (.iload 5, 79, 0, 0, 0, 0, 0), none, some (.iaload, 80, 0, 0, 0, 0, 0), some (.invokestatic 25, 83, 0, 0, 0, 0, 21), none, none, some (.istore 4, 85, 0, 0, 0, 0, 0), none, some (.iinc 5 1, 88, 1, 0, 0, 0, 0), none, none, some (.goto (-25), 91, 63, 0, 0, 0, 0), none, none, some (.iload 4, 93, 0, 0, 0, 0, 0), none, some (.ireturn, 94, 0, 0, 0, 0, 0)]
def T_Cr_mostFor : List (List (Option GE)) := [T_Cr_mostFor_0, T_Cr_mostFor_1, T_Cr_mostFor_2]
def T_Cr_countShape_0 : List (Option GE) := [some (.aload_n 3, 1, 0, 0, 0, 0, 0), some (.iload_n 1, 2, 0, 0, 0, 0, 0), some (.invokevirtual 31, 5, 11, 2, 0, 0, 1), none, none, some (.iconst 0, 6, 0, 0, 0, 0, 0), some (.istore 4, 8, 0, 0, 0, 0, 0), none, some (.iload 4, 10, 0, 0, 0, 0, 0), none, some (.sipush 256, 13, 256, 0, 0, 0, 0), none, none, some (.if_icmp .ge 65, 16, 78, 0, 0, 0, 0), none, none, some (.aload_n 2, 17, 0, 0, 0, 0, 0), some (.aload_n 3, 18, 0, 0, 0, 0, 0), some (.invokevirtual 37, 21, 102, 2, 0, 0, 0), none, none, some (.ifCond .eq 57, 24, 78, 0, 0, 0, 0), none, none, some (.iconst 0, 25, 0, 0, 0, 0, 0), some (.istore 5, 27, 0, 0, 0, 0, 0), none, some (.iload 5, 29, 0, 0, 0, 0, 0), none, some (.aload_n 3, 30, 0, 0, 0, 0, 0), some (.getfield 43, 33, 2, 5, 0, 0, 0), none]
def T_Cr_countShape_1 : List (Option GE) := [none, some (.if_icmp .ge 39, 36, 72, 0, 0, 0, 0), none, none, some (.aload_n 3, 37, 0, 0, 0, 0, 0), some (.iload 5, 39, 0, 0, 0, 0, 0), none, some (.invokevirtual 47, 42, 15, 2, 0, 0, 0), none, none, some (.istore 6, 44, 0, 0, 0, 0, 0), none, some (.aload_n 3, 45, 0, 0, 0, 0, 0), some (.iload 5, 47, 0, 0, 0, 0, 0), none, some (.invokevirtual 50, 50, 16, 2, 0, 0, 0), none, none, some (.istore 7, 52, 0, 0, 0, 0, 0), none, some (.aload_n 0, 53, 0, 0, 0, 0, 0), some (.iload 6, 55, 0, 0, 0, 0, 0), none, some (.iload 7, 57, 0, 0, 0, 0, 0), none, some (.aload_n 3, 58, 0, 0, 0, 0, 0), some (.iload 5, 60, 0, 0, 0, 0, 0), none, some (.invokevirtual 53, 63, 17, 2, 0, 0, 0), none, none, some (.invokevirtual 56, 66, 7, 4, 0, 0, 1)]
def T_Cr_countShape_2 : List (Option GE) := [none, none, some (.iinc 5 1, 69, 1, 0, 0, 0, 0), none, none, some (.goto (-42), 72, 27, 0, 0, 0, 0), none, none, some (.iinc 4 1, 75, 1, 0, 0, 0, 0), none, none, some (.goto (-67), 78, 8, 0, 0, 0, 0), none, none, some (.return_, 79, 0, 0, 0, 0, 0)]
def T_Cr_countShape : List (List (Option GE)) := [T_Cr_countShape_0, T_Cr_countShape_1, T_Cr_countShape_2]
def T_Cr_countEdge_0 : List (Option GE) := [some (.iload_n 2, 1, 0, 0, 0, 0, 0), some (.bipush 8, 3, 8, 0, 0, 0, 0), none, some (.imul, 4, 0, 0, 0, 0, 0), some (.iload_n 1, 5, 0, 0, 0, 0, 0), some (.iadd, 6, 0, 0, 0, 0, 0), some (.iconst 2, 7, 2, 0, 0, 0, 0), some (.imul, 8, 0, 0, 0, 0, 0), some (.iload_n 3, 9, 0, 0, 0, 0, 0), some (.iadd, 10, 0, 0, 0, 0, 0), some (.istore 4, 12, 0, 0, 0, 0, 0), none, some (.iload 4, 14, 0, 0, 0, 0, 0), none, some (.ifCond .lt 22, 17, 36, 0, 0, 0, 0), none, none, some (.iload 4, 19, 0, 0, 0, 0, 0), none, some (.sipush 128, 22, 128, 0, 0, 0, 0), none, none, some (.if_icmp .ge 14, 25, 36, 0, 0, 0, 0), none, none, some (.aload_n 0, 26, 0, 0, 0, 0, 0), some (.getfield 9, 29, 1, 0, 1, 1, 0), none, none, some (.iload 4, 31, 0, 0, 0, 0, 0), none, some (.dup2, 32, 0, 0, 0, 0, 0)]
def T_Cr_countEdge_1 : List (Option GE) := [some (.iaload, 33, 0, 0, 0, 0, 0), some (.iconst 1, 34, 1, 0, 0, 0, 0), some (.iadd, 35, 0, 0, 0, 0, 0), some (.iastore, 36, 0, 0, 0, 0, 0), some (.return_, 37, 0, 0, 0, 0, 0)]
def T_Cr_countEdge : List (List (Option GE)) := [T_Cr_countEdge_0, T_Cr_countEdge_1]
def T_Fp_init_0 : List (Option GE) := [some (.aload_n 0, 1, 0, 0, 0, 0, 0), some (.invokespecial 3, 4, 0, 0, 0, 0, 26), none, none, some (.aload_n 0, 5, 0, 0, 0, 0, 0), some (.iconst 0, 6, 0, 0, 0, 0, 0), some (.putfield 9, 9, 2, 0, 0, 0, 0), none, none, some (.aload_n 0, 10, 0, 0, 0, 0, 0), some (.iconst 0, 11, 0, 0, 0, 0, 0), some (.putfield 15, 14, 2, 1, 0, 0, 0), none, none, some (.aload_n 0, 15, 0, 0, 0, 0, 0), some (.iconst 0, 16, 0, 0, 0, 0, 0), some (.putfield 18, 19, 2, 2, 0, 0, 0), none, none, some (.aload_n 0, 20, 0, 0, 0, 0, 0), some (.iconst 0, 21, 0, 0, 0, 0, 0), some (.putfield 21, 24, 2, 3, 0, 0, 0), none, none, some (.aload_n 0, 25, 0, 0, 0, 0, 0), some (.iconst 0, 26, 0, 0, 0, 0, 0), some (.putfield 24, 29, 2, 4, 0, 0, 0), none, none, some (.aload_n 0, 30, 0, 0, 0, 0, 0), some (.iconst 0, 31, 0, 0, 0, 0, 0), some (.putfield 27, 34, 2, 5, 0, 0, 0)]
def T_Fp_init_1 : List (Option GE) := [none, none, some (.aload_n 0, 35, 0, 0, 0, 0, 0), some (.iconst 4, 36, 4, 0, 0, 0, 0), some (.newarray .int, 38, 0, 0, 0, 0, 0), none, some (.putfield 30, 41, 2, 6, 1, 1, 0), none, none, some (.aload_n 0, 42, 0, 0, 0, 0, 0), some (.iconst 4, 43, 4, 0, 0, 0, 0), some (.newarray .int, 45, 0, 0, 0, 0, 0), none, some (.putfield 34, 48, 2, 7, 1, 1, 0), none, none, some (.aload_n 0, 49, 0, 0, 0, 0, 0), some (.iconst 4, 50, 4, 0, 0, 0, 0), some (.newarray .int, 52, 0, 0, 0, 0, 0), none, some (.putfield 37, 55, 2, 8, 1, 1, 0), none, none, some (.aload_n 0, 56, 0, 0, 0, 0, 0), some (.iconst 4, 57, 4, 0, 0, 0, 0), some (.newarray .int, 59, 0, 0, 0, 0, 0), none, some (.putfield 40, 62, 2, 9, 1, 1, 0), none, none, some (.aload_n 0, 63, 0, 0, 0, 0, 0), some (.iconst 4, 64, 4, 0, 0, 0, 0)]
def T_Fp_init_2 : List (Option GE) := [some (.newarray .int, 66, 0, 0, 0, 0, 0), none, some (.putfield 43, 69, 2, 10, 1, 1, 0), none, none, some (.return_, 70, 0, 0, 0, 0, 0)]
def T_Fp_init : List (List (Option GE)) := [T_Fp_init_0, T_Fp_init_1, T_Fp_init_2]
def T_Fp_turn_0 : List (Option GE) := [some (.aload_n 0, 1, 0, 0, 0, 0, 0), some (.iload_n 1, 2, 0, 0, 0, 0, 0), some (.putfield 9, 5, 2, 0, 0, 0, 0), none, none, some (.aload_n 0, 6, 0, 0, 0, 0, 0), some (.iload_n 2, 7, 0, 0, 0, 0, 0), some (.putfield 15, 10, 2, 1, 0, 0, 0), none, none, some (.aload_n 0, 11, 0, 0, 0, 0, 0), some (.iload_n 1, 12, 0, 0, 0, 0, 0), some (.ifCond .lt 16, 15, 28, 0, 0, 0, 0), none, none, some (.iload_n 1, 16, 0, 0, 0, 0, 0), some (.iconst 5, 17, 5, 0, 0, 0, 0), some (.if_icmp .ge 11, 20, 28, 0, 0, 0, 0), none, none, some (.getstatic 46, 23, 100000, 0, 0, 0, 0), none, none, some (.iload_n 1, 24, 0, 0, 0, 0, 0), some (.iaload, 25, 0, 0, 0, 0, 0), some (.goto 4, 28, 29, 0, 0, 0, 0), none, none, some (.iconst 0, 29, 0, 0, 0, 0, 0), some (.putfield 24, 32, 2, 4, 0, 0, 0), none, none]
def T_Fp_turn_1 : List (Option GE) := [some (.iconst 0, 33, 0, 0, 0, 0, 0), some (.istore_n 3, 34, 0, 0, 0, 0, 0), some (.iload_n 3, 35, 0, 0, 0, 0, 0), some (.aload_n 0, 36, 0, 0, 0, 0, 0), some (.getfield 24, 39, 2, 4, 0, 0, 0), none, none, some (.if_icmp .ge 75, 42, 114, 0, 0, 0, 0), none, none, some (.getstatic 49, 45, 100001, 0, 0, 0, 0), none, none, some (.iload_n 1, 46, 0, 0, 0, 0, 0), some (.iconst 4, 47, 4, 0, 0, 0, 0), some (.imul, 48, 0, 0, 0, 0, 0), some (.iload_n 3, 49, 0, 0, 0, 0, 0), some (.iadd, 50, 0, 0, 0, 0, 0), some (.iaload, 51, 0, 0, 0, 0, 0), some (.istore 4, 53, 0, 0, 0, 0, 0), none, some (.getstatic 52, 56, 100002, 0, 0, 0, 0), none, none, some (.iload_n 1, 57, 0, 0, 0, 0, 0), some (.iconst 4, 58, 4, 0, 0, 0, 0), some (.imul, 59, 0, 0, 0, 0, 0), some (.iload_n 3, 60, 0, 0, 0, 0, 0), some (.iadd, 61, 0, 0, 0, 0, 0), some (.iaload, 62, 0, 0, 0, 0, 0), some (.istore 5, 64, 0, 0, 0, 0, 0), none]
def T_Fp_turn_2 : List (Option GE) := [some (.iconst 0, 65, 0, 0, 0, 0, 0), some (.istore 6, 67, 0, 0, 0, 0, 0), none, some (.iload 6, 69, 0, 0, 0, 0, 0), none, some (.iload_n 2, 70, 0, 0, 0, 0, 0), some (.if_icmp .ge 22, 73, 92, 0, 0, 0, 0), none, none, some (.iload 5, 75, 0, 0, 0, 0, 0), none, some (.ineg, 76, 0, 0, 0, 0, 0), some (.istore 7, 78, 0, 0, 0, 0, 0), none, some (.iload 4, 80, 0, 0, 0, 0, 0), none, some (.istore 5, 82, 0, 0, 0, 0, 0), none, some (.iload 7, 84, 0, 0, 0, 0, 0), none, some (.istore 4, 86, 0, 0, 0, 0, 0), none, some (.iinc 6 1, 89, 1, 0, 0, 0, 0), none, none, some (.goto (-22), 92, 67, 0, 0, 0, 0), none, none, some (.aload_n 0, 93, 0, 0, 0, 0, 0), some (.getfield 30, 96, 2, 6, 1, 1, 0), none, none]
def T_Fp_turn_3 : List (Option GE) := [some (.iload_n 3, 97, 0, 0, 0, 0, 0), some (.iload 4, 99, 0, 0, 0, 0, 0), none, some (.iastore, 100, 0, 0, 0, 0, 0), some (.aload_n 0, 101, 0, 0, 0, 0, 0), some (.getfield 34, 104, 2, 7, 1, 1, 0), none, none, some (.iload_n 3, 105, 0, 0, 0, 0, 0), some (.iload 5, 107, 0, 0, 0, 0, 0), none, some (.iastore, 108, 0, 0, 0, 0, 0), some (.iinc 3 1, 111, 1, 0, 0, 0, 0), none, none, some (.goto (-77), 114, 34, 0, 0, 0, 0), none, none, some (.aload_n 0, 115, 0, 0, 0, 0, 0), some (.invokevirtual 55, 118, 18, 1, 0, 0, 1), none, none, some (.return_, 119, 0, 0, 0, 0, 0)]
def T_Fp_turn : List (List (Option GE)) := [T_Fp_turn_0, T_Fp_turn_1, T_Fp_turn_2, T_Fp_turn_3]
def T_Fp_moveTo_0 : List (Option GE) := [some (.aload_n 0, 1, 0, 0, 0, 0, 0), some (.iload_n 1, 2, 0, 0, 0, 0, 0), some (.putfield 18, 5, 2, 2, 0, 0, 0), none, none, some (.aload_n 0, 6, 0, 0, 0, 0, 0), some (.iload_n 2, 7, 0, 0, 0, 0, 0), some (.putfield 21, 10, 2, 3, 0, 0, 0), none, none, some (.return_, 11, 0, 0, 0, 0, 0)]
def T_Fp_moveTo : List (List (Option GE)) := [T_Fp_moveTo_0]
def T_Fp_startAll_0 : List (Option GE) := [some (.aload_n 0, 1, 0, 0, 0, 0, 0), some (.iload_n 1, 2, 0, 0, 0, 0, 0), some (.iconst 0, 3, 0, 0, 0, 0, 0), some (.invokevirtual 58, 6, 9, 3, 0, 0, 1), none, none, some (.aload_n 0, 7, 0, 0, 0, 0, 0), some (.iconst (-1), 8, 1, 1, 0, 0, 0), some (.iconst 0, 9, 0, 0, 0, 0, 0), some (.invokevirtual 62, 12, 10, 3, 0, 0, 1), none, none, some (.return_, 13, 0, 0, 0, 0, 0)]
def T_Fp_startAll : List (List (Option GE)) := [T_Fp_startAll_0]
def T_Fp_advance_0 : List (Option GE) := [some (.aload_n 0, 1, 0, 0, 0, 0, 0), some (.dup, 2, 0, 0, 0, 0, 0), some (.getfield 18, 5, 2, 2, 0, 0, 0), none, none, some (.iconst 1, 6, 1, 0, 0, 0, 0), some (.iadd, 7, 0, 0, 0, 0, 0), some (.putfield 18, 10, 2, 2, 0, 0, 0), none, none, some (.aload_n 0, 11, 0, 0, 0, 0, 0), some (.getfield 18, 14, 2, 2, 0, 0, 0), none, none, some (.iload_n 1, 15, 0, 0, 0, 0, 0), some (.if_icmp .ge 5, 18, 20, 0, 0, 0, 0), none, none, some (.iconst 1, 19, 1, 0, 0, 0, 0), some (.ireturn, 20, 1, 0, 0, 0, 0), some (.aload_n 0, 21, 0, 0, 0, 0, 0), some (.iconst 0, 22, 0, 0, 0, 0, 0), some (.putfield 18, 25, 2, 2, 0, 0, 0), none, none, some (.aload_n 0, 26, 0, 0, 0, 0, 0), some (.dup, 27, 0, 0, 0, 0, 0), some (.getfield 21, 30, 2, 3, 0, 0, 0), none, none, some (.iconst 1, 31, 1, 0, 0, 0, 0), some (.iadd, 32, 0, 0, 0, 0, 0)]
def T_Fp_advance_1 : List (Option GE) := [some (.putfield 21, 35, 2, 3, 0, 0, 0), none, none, some (.aload_n 0, 36, 0, 0, 0, 0, 0), some (.getfield 21, 39, 2, 3, 0, 0, 0), none, none, some (.iload_n 2, 40, 0, 0, 0, 0, 0), some (.if_icmp .ge 5, 43, 45, 0, 0, 0, 0), none, none, some (.iconst 1, 44, 1, 0, 0, 0, 0), some (.ireturn, 45, 1, 0, 0, 0, 0), some (.aload_n 0, 46, 0, 0, 0, 0, 0), some (.iconst 0, 47, 0, 0, 0, 0, 0), some (.putfield 21, 50, 2, 3, 0, 0, 0), none, none, some (.aload_n 0, 51, 0, 0, 0, 0, 0), some (.getfield 15, 54, 2, 1, 0, 0, 0), none, none, some (.iconst 3, 55, 3, 0, 0, 0, 0), some (.if_icmp .lt 5, 58, 60, 0, 0, 0, 0), none, none, some (.iconst 0, 59, 0, 0, 0, 0, 0), some (.ireturn, 60, 1, 0, 0, 0, 0), some (.aload_n 0, 61, 0, 0, 0, 0, 0), some (.aload_n 0, 62, 0, 0, 0, 0, 0), some (.getfield 9, 65, 2, 0, 0, 0, 0), none]
def T_Fp_advance_2 : List (Option GE) := [none, some (.aload_n 0, 66, 0, 0, 0, 0, 0), some (.getfield 15, 69, 2, 1, 0, 0, 0), none, none, some (.iconst 1, 70, 1, 0, 0, 0, 0), some (.iadd, 71, 0, 0, 0, 0, 0), some (.invokevirtual 58, 74, 9, 3, 0, 0, 1), none, none, some (.iconst 1, 75, 1, 0, 0, 0, 0), some (.ireturn, 76, 1, 0, 0, 0, 0)]
def T_Fp_advance : List (List (Option GE)) := [T_Fp_advance_0, T_Fp_advance_1, T_Fp_advance_2]
def T_Fp_columnOf_0 : List (Option GE) := [some (.iload_n 1, 1, 0, 0, 0, 0, 0), some (.ifCond .lt 22, 4, 23, 0, 0, 0, 0), none, none, some (.iload_n 1, 5, 0, 0, 0, 0, 0), some (.iconst 4, 6, 4, 0, 0, 0, 0), some (.if_icmp .ge 17, 9, 23, 0, 0, 0, 0), none, none, some (.aload_n 0, 10, 0, 0, 0, 0, 0), some (.getfield 18, 13, 2, 2, 0, 0, 0), none, none, some (.aload_n 0, 14, 0, 0, 0, 0, 0), some (.getfield 30, 17, 2, 6, 1, 1, 0), none, none, some (.iload_n 1, 18, 0, 0, 0, 0, 0), some (.iaload, 19, 0, 0, 0, 0, 0), some (.iadd, 20, 0, 0, 0, 0, 0), some (.goto 4, 23, 24, 0, 0, 0, 0), none, none, some (.iconst (-1), 24, 1, 1, 0, 0, 0), some (.ireturn, 25, 0, 0, 0, 0, 0)]
def T_Fp_columnOf : List (List (Option GE)) := [T_Fp_columnOf_0]
def T_Fp_rowOf_0 : List (Option GE) := [some (.iload_n 1, 1, 0, 0, 0, 0, 0), some (.ifCond .lt 22, 4, 23, 0, 0, 0, 0), none, none, some (.iload_n 1, 5, 0, 0, 0, 0, 0), some (.iconst 4, 6, 4, 0, 0, 0, 0), some (.if_icmp .ge 17, 9, 23, 0, 0, 0, 0), none, none, some (.aload_n 0, 10, 0, 0, 0, 0, 0), some (.getfield 21, 13, 2, 3, 0, 0, 0), none, none, some (.aload_n 0, 14, 0, 0, 0, 0, 0), some (.getfield 34, 17, 2, 7, 1, 1, 0), none, none, some (.iload_n 1, 18, 0, 0, 0, 0, 0), some (.iaload, 19, 0, 0, 0, 0, 0), some (.iadd, 20, 0, 0, 0, 0, 0), some (.goto 4, 23, 24, 0, 0, 0, 0), none, none, some (.iconst (-1), 24, 1, 1, 0, 0, 0), some (.ireturn, 25, 0, 0, 0, 0, 0)]
def T_Fp_rowOf : List (List (Option GE)) := [T_Fp_rowOf_0]
def T_Fp_edgeColumnOf_0 : List (Option GE) := [some (.iload_n 1, 1, 0, 0, 0, 0, 0), some (.ifCond .lt 22, 4, 23, 0, 0, 0, 0), none, none, some (.iload_n 1, 5, 0, 0, 0, 0, 0), some (.iconst 4, 6, 4, 0, 0, 0, 0), some (.if_icmp .ge 17, 9, 23, 0, 0, 0, 0), none, none, some (.aload_n 0, 10, 0, 0, 0, 0, 0), some (.getfield 18, 13, 2, 2, 0, 0, 0), none, none, some (.aload_n 0, 14, 0, 0, 0, 0, 0), some (.getfield 37, 17, 2, 8, 1, 1, 0), none, none, some (.iload_n 1, 18, 0, 0, 0, 0, 0), some (.iaload, 19, 0, 0, 0, 0, 0), some (.iadd, 20, 0, 0, 0, 0, 0), some (.goto 4, 23, 24, 0, 0, 0, 0), none, none, some (.iconst (-1), 24, 1, 1, 0, 0, 0), some (.ireturn, 25, 0, 0, 0, 0, 0)]
def T_Fp_edgeColumnOf : List (List (Option GE)) := [T_Fp_edgeColumnOf_0]
def T_Fp_edgeRowOf_0 : List (Option GE) := [some (.iload_n 1, 1, 0, 0, 0, 0, 0), some (.ifCond .lt 22, 4, 23, 0, 0, 0, 0), none, none, some (.iload_n 1, 5, 0, 0, 0, 0, 0), some (.iconst 4, 6, 4, 0, 0, 0, 0), some (.if_icmp .ge 17, 9, 23, 0, 0, 0, 0), none, none, some (.aload_n 0, 10, 0, 0, 0, 0, 0), some (.getfield 21, 13, 2, 3, 0, 0, 0), none, none, some (.aload_n 0, 14, 0, 0, 0, 0, 0), some (.getfield 40, 17, 2, 9, 1, 1, 0), none, none, some (.iload_n 1, 18, 0, 0, 0, 0, 0), some (.iaload, 19, 0, 0, 0, 0, 0), some (.iadd, 20, 0, 0, 0, 0, 0), some (.goto 4, 23, 24, 0, 0, 0, 0), none, none, some (.iconst (-1), 24, 1, 1, 0, 0, 0), some (.ireturn, 25, 0, 0, 0, 0, 0)]
def T_Fp_edgeRowOf : List (List (Option GE)) := [T_Fp_edgeRowOf_0]
def T_Fp_sideOf_0 : List (Option GE) := [some (.iload_n 1, 1, 0, 0, 0, 0, 0), some (.ifCond .lt 17, 4, 18, 0, 0, 0, 0), none, none, some (.iload_n 1, 5, 0, 0, 0, 0, 0), some (.iconst 4, 6, 4, 0, 0, 0, 0), some (.if_icmp .ge 12, 9, 18, 0, 0, 0, 0), none, none, some (.aload_n 0, 10, 0, 0, 0, 0, 0), some (.getfield 43, 13, 2, 10, 1, 1, 0), none, none, some (.iload_n 1, 14, 0, 0, 0, 0, 0), some (.iaload, 15, 0, 0, 0, 0, 0), some (.goto 4, 18, 19, 0, 0, 0, 0), none, none, some (.iconst (-1), 19, 1, 1, 0, 0, 0), some (.ireturn, 20, 0, 0, 0, 0, 0)]
def T_Fp_sideOf : List (List (Option GE)) := [T_Fp_sideOf_0]
def T_Fp_findEdges_0 : List (Option GE) := [some (.aload_n 0, 1, 0, 0, 0, 0, 0), some (.iconst 0, 2, 0, 0, 0, 0, 0), some (.putfield 27, 5, 2, 5, 0, 0, 0), none, none, some (.iconst 0, 6, 0, 0, 0, 0, 0), some (.istore_n 1, 7, 0, 0, 0, 0, 0), some (.iload_n 1, 8, 0, 0, 0, 0, 0), some (.aload_n 0, 9, 0, 0, 0, 0, 0), some (.getfield 24, 12, 2, 4, 0, 0, 0), none, none, some (.if_icmp .ge 155, 15, 167, 0, 0, 0, 0), none, none, some (.iload_n 1, 16, 0, 0, 0, 0, 0), some (.iconst 1, 17, 1, 0, 0, 0, 0), some (.iadd, 18, 0, 0, 0, 0, 0), some (.istore_n 2, 19, 0, 0, 0, 0, 0), some (.iload_n 2, 20, 0, 0, 0, 0, 0), some (.aload_n 0, 21, 0, 0, 0, 0, 0), some (.getfield 24, 24, 2, 4, 0, 0, 0), none, none, some (.if_icmp .ge 137, 27, 161, 0, 0, 0, 0), none, none, some (.aload_n 0, 28, 0, 0, 0, 0, 0), some (.getfield 30, 31, 2, 6, 1, 1, 0), none, none, some (.iload_n 1, 32, 0, 0, 0, 0, 0)]
def T_Fp_findEdges_1 : List (Option GE) := [some (.iaload, 33, 0, 0, 0, 0, 0), some (.aload_n 0, 34, 0, 0, 0, 0, 0), some (.getfield 30, 37, 2, 6, 1, 1, 0), none, none, some (.iload_n 2, 38, 0, 0, 0, 0, 0), some (.iaload, 39, 0, 0, 0, 0, 0), some (.isub, 40, 0, 0, 0, 0, 0), some (.invokestatic 65, 43, 0, 0, 0, 0, 22), none, none, some (.istore_n 3, 44, 0, 0, 0, 0, 0), some (.aload_n 0, 45, 0, 0, 0, 0, 0), some (.getfield 34, 48, 2, 7, 1, 1, 0), none, none, some (.iload_n 1, 49, 0, 0, 0, 0, 0), some (.iaload, 50, 0, 0, 0, 0, 0), some (.aload_n 0, 51, 0, 0, 0, 0, 0), some (.getfield 34, 54, 2, 7, 1, 1, 0), none, none, some (.iload_n 2, 55, 0, 0, 0, 0, 0), some (.iaload, 56, 0, 0, 0, 0, 0), some (.isub, 57, 0, 0, 0, 0, 0), some (.invokestatic 65, 60, 0, 0, 0, 0, 22), none, none, some (.istore 4, 62, 0, 0, 0, 0, 0), none, some (.iload_n 3, 63, 0, 0, 0, 0, 0), some (.iload 4, 65, 0, 0, 0, 0, 0)]
def T_Fp_findEdges_2 : List (Option GE) := [none, some (.iadd, 66, 0, 0, 0, 0, 0), some (.iconst 1, 67, 1, 0, 0, 0, 0), some (.if_icmp .ne 88, 70, 155, 0, 0, 0, 0), none, none, some (.aload_n 0, 71, 0, 0, 0, 0, 0), some (.getfield 27, 74, 2, 5, 0, 0, 0), none, none, some (.iconst 4, 75, 4, 0, 0, 0, 0), some (.if_icmp .ge 80, 78, 155, 0, 0, 0, 0), none, none, some (.aload_n 0, 79, 0, 0, 0, 0, 0), some (.getfield 37, 82, 2, 8, 1, 1, 0), none, none, some (.aload_n 0, 83, 0, 0, 0, 0, 0), some (.getfield 27, 86, 2, 5, 0, 0, 0), none, none, some (.aload_n 0, 87, 0, 0, 0, 0, 0), some (.getfield 30, 90, 2, 6, 1, 1, 0), none, none, some (.iload_n 1, 91, 0, 0, 0, 0, 0), some (.iaload, 92, 0, 0, 0, 0, 0), some (.aload_n 0, 93, 0, 0, 0, 0, 0), some (.getfield 30, 96, 2, 6, 1, 1, 0), none, none]
def T_Fp_findEdges_3 : List (Option GE) := [some (.iload_n 2, 97, 0, 0, 0, 0, 0), some (.iaload, 98, 0, 0, 0, 0, 0), some (.invokestatic 71, 101, 0, 0, 0, 0, 20), none, none, some (.iastore, 102, 0, 0, 0, 0, 0), some (.aload_n 0, 103, 0, 0, 0, 0, 0), some (.getfield 40, 106, 2, 9, 1, 1, 0), none, none, some (.aload_n 0, 107, 0, 0, 0, 0, 0), some (.getfield 27, 110, 2, 5, 0, 0, 0), none, none, some (.aload_n 0, 111, 0, 0, 0, 0, 0), some (.getfield 34, 114, 2, 7, 1, 1, 0), none, none, some (.iload_n 1, 115, 0, 0, 0, 0, 0), some (.iaload, 116, 0, 0, 0, 0, 0), some (.aload_n 0, 117, 0, 0, 0, 0, 0), some (.getfield 34, 120, 2, 7, 1, 1, 0), none, none, some (.iload_n 2, 121, 0, 0, 0, 0, 0), some (.iaload, 122, 0, 0, 0, 0, 0), some (.invokestatic 71, 125, 0, 0, 0, 0, 20), none, none, some (.iastore, 126, 0, 0, 0, 0, 0), some (.aload_n 0, 127, 0, 0, 0, 0, 0), some (.getfield 43, 130, 2, 10, 1, 1, 0)]
def T_Fp_findEdges_4 : List (Option GE) := [none, none, some (.aload_n 0, 131, 0, 0, 0, 0, 0), some (.getfield 27, 134, 2, 5, 0, 0, 0), none, none, some (.iload 4, 136, 0, 0, 0, 0, 0), none, some (.ifCond .ne 7, 139, 143, 0, 0, 0, 0), none, none, some (.iconst 0, 140, 0, 0, 0, 0, 0), some (.goto 4, 143, 144, 0, 0, 0, 0), none, none, some (.iconst 1, 144, 1, 0, 0, 0, 0), some (.iastore, 145, 0, 0, 0, 0, 0), some (.aload_n 0, 146, 0, 0, 0, 0, 0), some (.dup, 147, 0, 0, 0, 0, 0), some (.getfield 27, 150, 2, 5, 0, 0, 0), none, none, some (.iconst 1, 151, 1, 0, 0, 0, 0), some (.iadd, 152, 0, 0, 0, 0, 0), some (.putfield 27, 155, 2, 5, 0, 0, 0), none, none, some (.iinc 2 1, 158, 1, 0, 0, 0, 0), none, none, some (.goto (-139), 161, 19, 0, 0, 0, 0), none]
def T_Fp_findEdges_5 : List (Option GE) := [none, some (.iinc 1 1, 164, 1, 0, 0, 0, 0), none, none, some (.goto (-157), 167, 7, 0, 0, 0, 0), none, none, some (.return_, 168, 0, 0, 0, 0, 0)]
def T_Fp_findEdges : List (List (Option GE)) := [T_Fp_findEdges_0, T_Fp_findEdges_1, T_Fp_findEdges_2, T_Fp_findEdges_3, T_Fp_findEdges_4, T_Fp_findEdges_5]
def T_Hi_init_0 : List (Option GE) := [some (.aload_n 0, 1, 0, 0, 0, 0, 0), some (.invokespecial 3, 4, 0, 0, 0, 0, 26), none, none, some (.aload_n 0, 5, 0, 0, 0, 0, 0), some (.iconst 0, 6, 0, 0, 0, 0, 0), some (.putfield 9, 9, 3, 0, 0, 0, 0), none, none, some (.aload_n 0, 10, 0, 0, 0, 0, 0), some (.iconst 0, 11, 0, 0, 0, 0, 0), some (.putfield 15, 14, 3, 1, 0, 0, 0), none, none, some (.aload_n 0, 15, 0, 0, 0, 0, 0), some (.bipush 8, 17, 8, 0, 0, 0, 0), none, some (.anewarray 18, 20, 0, 0, 0, 0, 0), none, none, some (.putfield 20, 23, 3, 2, 1, 1, 0), none, none, some (.iconst 0, 24, 0, 0, 0, 0, 0), some (.istore_n 1, 25, 0, 0, 0, 0, 0), some (.iload_n 1, 26, 0, 0, 0, 0, 0), some (.bipush 8, 28, 8, 0, 0, 0, 0), none, some (.if_icmp .ge 22, 31, 50, 0, 0, 0, 0), none, none, some (.aload_n 0, 32, 0, 0, 0, 0, 0)]
def T_Hi_init_1 : List (Option GE) := [some (.getfield 20, 35, 3, 2, 1, 1, 0), none, none, some (.iload_n 1, 36, 0, 0, 0, 0, 0), some (.new 18, 39, 8, 6, 0, 0, 0), none, none, some (.dup, 40, 0, 0, 0, 0, 0), some (.invokespecial 24, 43, 71, 1, 16, 427, 1), none, none, some (.aastore, 44, 0, 0, 0, 0, 0), some (.iinc 1 1, 47, 1, 0, 0, 0, 0), none, none, some (.goto (-22), 50, 25, 0, 0, 0, 0), none, none, some (.return_, 51, 0, 0, 0, 0, 0)]
def T_Hi_init : List (List (Option GE)) := [T_Hi_init_0, T_Hi_init_1]
def T_Hi_remember_0 : List (Option GE) := [some (.aload_n 0, 1, 0, 0, 0, 0, 0), some (.getfield 9, 4, 3, 0, 0, 0, 0), none, none, some (.bipush 8, 6, 8, 0, 0, 0, 0), none, some (.if_icmp .ne 26, 9, 32, 0, 0, 0, 0), none, none, some (.aload_n 0, 10, 0, 0, 0, 0, 0), some (.aload_n 0, 11, 0, 0, 0, 0, 0), some (.getfield 15, 14, 3, 1, 0, 0, 0), none, none, some (.iconst 1, 15, 1, 0, 0, 0, 0), some (.iadd, 16, 0, 0, 0, 0, 0), some (.bipush 8, 18, 8, 0, 0, 0, 0), none, some (.irem, 19, 0, 0, 0, 0, 0), some (.putfield 15, 22, 3, 1, 0, 0, 0), none, none, some (.aload_n 0, 23, 0, 0, 0, 0, 0), some (.dup, 24, 0, 0, 0, 0, 0), some (.getfield 9, 27, 3, 0, 0, 0, 0), none, none, some (.iconst 1, 28, 1, 0, 0, 0, 0), some (.isub, 29, 0, 0, 0, 0, 0), some (.putfield 9, 32, 3, 0, 0, 0, 0), none, none]
def T_Hi_remember_1 : List (Option GE) := [some (.aload_n 0, 33, 0, 0, 0, 0, 0), some (.getfield 20, 36, 3, 2, 1, 1, 0), none, none, some (.aload_n 0, 37, 0, 0, 0, 0, 0), some (.getfield 15, 40, 3, 1, 0, 0, 0), none, none, some (.aload_n 0, 41, 0, 0, 0, 0, 0), some (.getfield 9, 44, 3, 0, 0, 0, 0), none, none, some (.iadd, 45, 0, 0, 0, 0, 0), some (.bipush 8, 47, 8, 0, 0, 0, 0), none, some (.irem, 48, 0, 0, 0, 0, 0), some (.aaload, 49, 0, 0, 0, 0, 0), some (.aload_n 1, 50, 0, 0, 0, 0, 0), some (.invokevirtual 25, 53, 73, 2, 0, 0, 1), none, none, some (.aload_n 0, 54, 0, 0, 0, 0, 0), some (.dup, 55, 0, 0, 0, 0, 0), some (.getfield 9, 58, 3, 0, 0, 0, 0), none, none, some (.iconst 1, 59, 1, 0, 0, 0, 0), some (.iadd, 60, 0, 0, 0, 0, 0), some (.putfield 9, 63, 3, 0, 0, 0, 0), none, none, some (.return_, 64, 0, 0, 0, 0, 0)]
def T_Hi_remember : List (List (Option GE)) := [T_Hi_remember_0, T_Hi_remember_1]
def T_Hi_bringBack_0 : List (Option GE) := [some (.aload_n 0, 1, 0, 0, 0, 0, 0), some (.getfield 9, 4, 3, 0, 0, 0, 0), none, none, some (.ifCond .le 34, 7, 38, 0, 0, 0, 0), none, none, some (.aload_n 0, 8, 0, 0, 0, 0, 0), some (.dup, 9, 0, 0, 0, 0, 0), some (.getfield 9, 12, 3, 0, 0, 0, 0), none, none, some (.iconst 1, 13, 1, 0, 0, 0, 0), some (.isub, 14, 0, 0, 0, 0, 0), some (.putfield 9, 17, 3, 0, 0, 0, 0), none, none, some (.aload_n 1, 18, 0, 0, 0, 0, 0), some (.aload_n 0, 19, 0, 0, 0, 0, 0), some (.getfield 20, 22, 3, 2, 1, 1, 0), none, none, some (.aload_n 0, 23, 0, 0, 0, 0, 0), some (.getfield 15, 26, 3, 1, 0, 0, 0), none, none, some (.aload_n 0, 27, 0, 0, 0, 0, 0), some (.getfield 9, 30, 3, 0, 0, 0, 0), none, none, some (.iadd, 31, 0, 0, 0, 0, 0), some (.bipush 8, 33, 8, 0, 0, 0, 0)]
def T_Hi_bringBack_1 : List (Option GE) := [none, some (.irem, 34, 0, 0, 0, 0, 0), some (.aaload, 35, 0, 0, 0, 0, 0), some (.invokevirtual 25, 38, 73, 2, 0, 0, 1), none, none, some (.return_, 39, 0, 0, 0, 0, 0)]
def T_Hi_bringBack : List (List (Option GE)) := [T_Hi_bringBack_0, T_Hi_bringBack_1]
def T_Pi_init_0 : List (Option GE) := [some (.aload_n 0, 1, 0, 0, 0, 0, 0), some (.invokespecial 3, 4, 0, 0, 0, 0, 26), none, none, some (.aload_n 0, 5, 0, 0, 0, 0, 0), some (.iconst 0, 6, 0, 0, 0, 0, 0), some (.putfield 9, 9, 4, 0, 0, 0, 0), none, none, some (.aload_n 0, 10, 0, 0, 0, 0, 0), some (.bipush 32, 12, 32, 0, 0, 0, 0), none, some (.newarray .int, 14, 0, 0, 0, 0, 0), none, some (.putfield 15, 17, 4, 1, 1, 1, 0), none, none, some (.aload_n 0, 18, 0, 0, 0, 0, 0), some (.bipush 32, 20, 32, 0, 0, 0, 0), none, some (.newarray .int, 22, 0, 0, 0, 0, 0), none, some (.putfield 19, 25, 4, 2, 1, 1, 0), none, none, some (.aload_n 0, 26, 0, 0, 0, 0, 0), some (.bipush 32, 28, 32, 0, 0, 0, 0), none, some (.newarray .int, 30, 0, 0, 0, 0, 0), none, some (.putfield 22, 33, 4, 3, 1, 1, 0), none]
def T_Pi_init_1 : List (Option GE) := [none, some (.aload_n 0, 34, 0, 0, 0, 0, 0), some (.bipush 32, 36, 32, 0, 0, 0, 0), none, some (.newarray .int, 38, 0, 0, 0, 0, 0), none, some (.putfield 25, 41, 4, 4, 1, 1, 0), none, none, some (.aload_n 0, 42, 0, 0, 0, 0, 0), some (.bipush 32, 44, 32, 0, 0, 0, 0), none, some (.newarray .int, 46, 0, 0, 0, 0, 0), none, some (.putfield 28, 49, 4, 5, 1, 1, 0), none, none, some (.aload_n 0, 50, 0, 0, 0, 0, 0), some (.bipush 32, 52, 32, 0, 0, 0, 0), none, some (.newarray .int, 54, 0, 0, 0, 0, 0), none, some (.putfield 31, 57, 4, 6, 1, 1, 0), none, none, some (.return_, 58, 0, 0, 0, 0, 0)]
def T_Pi_init : List (List (Option GE)) := [T_Pi_init_0, T_Pi_init_1]
def T_Pi_copyFrom_0 : List (Option GE) := [some (.aload_n 0, 1, 0, 0, 0, 0, 0), some (.aload_n 1, 2, 0, 0, 0, 0, 0), some (.getfield 9, 5, 4, 0, 0, 0, 0), none, none, some (.putfield 9, 8, 4, 0, 0, 0, 0), none, none, some (.aload_n 1, 9, 0, 0, 0, 0, 0), some (.getfield 15, 12, 4, 1, 1, 1, 0), none, none, some (.iconst 0, 13, 0, 0, 0, 0, 0), some (.aload_n 0, 14, 0, 0, 0, 0, 0), some (.getfield 15, 17, 4, 1, 1, 1, 0), none, none, some (.iconst 0, 18, 0, 0, 0, 0, 0), some (.bipush 32, 20, 32, 0, 0, 0, 0), none, some (.invokestatic 34, 23, 0, 0, 0, 0, 25), none, none, some (.aload_n 1, 24, 0, 0, 0, 0, 0), some (.getfield 19, 27, 4, 2, 1, 1, 0), none, none, some (.iconst 0, 28, 0, 0, 0, 0, 0), some (.aload_n 0, 29, 0, 0, 0, 0, 0), some (.getfield 19, 32, 4, 2, 1, 1, 0), none, none]
def T_Pi_copyFrom_1 : List (Option GE) := [some (.iconst 0, 33, 0, 0, 0, 0, 0), some (.bipush 32, 35, 32, 0, 0, 0, 0), none, some (.invokestatic 34, 38, 0, 0, 0, 0, 25), none, none, some (.aload_n 1, 39, 0, 0, 0, 0, 0), some (.getfield 22, 42, 4, 3, 1, 1, 0), none, none, some (.iconst 0, 43, 0, 0, 0, 0, 0), some (.aload_n 0, 44, 0, 0, 0, 0, 0), some (.getfield 22, 47, 4, 3, 1, 1, 0), none, none, some (.iconst 0, 48, 0, 0, 0, 0, 0), some (.bipush 32, 50, 32, 0, 0, 0, 0), none, some (.invokestatic 34, 53, 0, 0, 0, 0, 25), none, none, some (.aload_n 1, 54, 0, 0, 0, 0, 0), some (.getfield 25, 57, 4, 4, 1, 1, 0), none, none, some (.iconst 0, 58, 0, 0, 0, 0, 0), some (.aload_n 0, 59, 0, 0, 0, 0, 0), some (.getfield 25, 62, 4, 4, 1, 1, 0), none, none, some (.iconst 0, 63, 0, 0, 0, 0, 0), some (.bipush 32, 65, 32, 0, 0, 0, 0)]
def T_Pi_copyFrom_2 : List (Option GE) := [none, some (.invokestatic 34, 68, 0, 0, 0, 0, 25), none, none, some (.aload_n 1, 69, 0, 0, 0, 0, 0), some (.getfield 28, 72, 4, 5, 1, 1, 0), none, none, some (.iconst 0, 73, 0, 0, 0, 0, 0), some (.aload_n 0, 74, 0, 0, 0, 0, 0), some (.getfield 28, 77, 4, 5, 1, 1, 0), none, none, some (.iconst 0, 78, 0, 0, 0, 0, 0), some (.bipush 32, 80, 32, 0, 0, 0, 0), none, some (.invokestatic 34, 83, 0, 0, 0, 0, 25), none, none, some (.aload_n 1, 84, 0, 0, 0, 0, 0), some (.getfield 31, 87, 4, 6, 1, 1, 0), none, none, some (.iconst 0, 88, 0, 0, 0, 0, 0), some (.aload_n 0, 89, 0, 0, 0, 0, 0), some (.getfield 31, 92, 4, 6, 1, 1, 0), none, none, some (.iconst 0, 93, 0, 0, 0, 0, 0), some (.bipush 32, 95, 32, 0, 0, 0, 0), none, some (.invokestatic 34, 98, 0, 0, 0, 0, 25)]
def T_Pi_copyFrom_3 : List (Option GE) := [none, none, some (.return_, 99, 0, 0, 0, 0, 0)]
def T_Pi_copyFrom : List (List (Option GE)) := [T_Pi_copyFrom_0, T_Pi_copyFrom_1, T_Pi_copyFrom_2, T_Pi_copyFrom_3]
def T_Pi_add_0 : List (Option GE) := [some (.aload_n 0, 1, 0, 0, 0, 0, 0), some (.getfield 9, 4, 4, 0, 0, 0, 0), none, none, some (.bipush 32, 6, 32, 0, 0, 0, 0), none, some (.if_icmp .ge 85, 9, 91, 0, 0, 0, 0), none, none, some (.aload_n 0, 10, 0, 0, 0, 0, 0), some (.getfield 15, 13, 4, 1, 1, 1, 0), none, none, some (.aload_n 0, 14, 0, 0, 0, 0, 0), some (.getfield 9, 17, 4, 0, 0, 0, 0), none, none, some (.aload_n 1, 18, 0, 0, 0, 0, 0), some (.getfield 40, 21, 2, 0, 0, 0, 0), none, none, some (.iastore, 22, 0, 0, 0, 0, 0), some (.aload_n 0, 23, 0, 0, 0, 0, 0), some (.getfield 19, 26, 4, 2, 1, 1, 0), none, none, some (.aload_n 0, 27, 0, 0, 0, 0, 0), some (.getfield 9, 30, 4, 0, 0, 0, 0), none, none, some (.aload_n 1, 31, 0, 0, 0, 0, 0), some (.getfield 45, 34, 2, 1, 0, 0, 0)]
def T_Pi_add_1 : List (Option GE) := [none, none, some (.iastore, 35, 0, 0, 0, 0, 0), some (.aload_n 0, 36, 0, 0, 0, 0, 0), some (.getfield 22, 39, 4, 3, 1, 1, 0), none, none, some (.aload_n 0, 40, 0, 0, 0, 0, 0), some (.getfield 9, 43, 4, 0, 0, 0, 0), none, none, some (.aload_n 1, 44, 0, 0, 0, 0, 0), some (.getfield 48, 47, 2, 2, 0, 0, 0), none, none, some (.iastore, 48, 0, 0, 0, 0, 0), some (.aload_n 0, 49, 0, 0, 0, 0, 0), some (.getfield 25, 52, 4, 4, 1, 1, 0), none, none, some (.aload_n 0, 53, 0, 0, 0, 0, 0), some (.getfield 9, 56, 4, 0, 0, 0, 0), none, none, some (.aload_n 1, 57, 0, 0, 0, 0, 0), some (.getfield 51, 60, 2, 3, 0, 0, 0), none, none, some (.iastore, 61, 0, 0, 0, 0, 0), some (.aload_n 0, 62, 0, 0, 0, 0, 0), some (.getfield 28, 65, 4, 5, 1, 1, 0), none]
def T_Pi_add_2 : List (Option GE) := [none, some (.aload_n 0, 66, 0, 0, 0, 0, 0), some (.getfield 9, 69, 4, 0, 0, 0, 0), none, none, some (.iload_n 2, 70, 0, 0, 0, 0, 0), some (.iastore, 71, 0, 0, 0, 0, 0), some (.aload_n 0, 72, 0, 0, 0, 0, 0), some (.getfield 31, 75, 4, 6, 1, 1, 0), none, none, some (.aload_n 0, 76, 0, 0, 0, 0, 0), some (.getfield 9, 79, 4, 0, 0, 0, 0), none, none, some (.iload_n 3, 80, 0, 0, 0, 0, 0), some (.iastore, 81, 0, 0, 0, 0, 0), some (.aload_n 0, 82, 0, 0, 0, 0, 0), some (.dup, 83, 0, 0, 0, 0, 0), some (.getfield 9, 86, 4, 0, 0, 0, 0), none, none, some (.iconst 1, 87, 1, 0, 0, 0, 0), some (.iadd, 88, 0, 0, 0, 0, 0), some (.putfield 9, 91, 4, 0, 0, 0, 0), none, none, some (.return_, 92, 0, 0, 0, 0, 0)]
def T_Pi_add : List (List (Option GE)) := [T_Pi_add_0, T_Pi_add_1, T_Pi_add_2]
def T_Pi_has_0 : List (Option GE) := [some (.iload_n 1, 1, 0, 0, 0, 0, 0), some (.ifCond .lt 15, 4, 16, 0, 0, 0, 0), none, none, some (.iload_n 1, 5, 0, 0, 0, 0, 0), some (.aload_n 0, 6, 0, 0, 0, 0, 0), some (.getfield 9, 9, 4, 0, 0, 0, 0), none, none, some (.if_icmp .ge 7, 12, 16, 0, 0, 0, 0), none, none, some (.iconst 1, 13, 1, 0, 0, 0, 0), some (.goto 4, 16, 17, 0, 0, 0, 0), none, none, some (.iconst 0, 17, 0, 0, 0, 0, 0), some (.ireturn, 18, 1, 0, 0, 0, 0)]
def T_Pi_has : List (List (Option GE)) := [T_Pi_has_0]
def T_Pi_shapeOf_0 : List (Option GE) := [some (.aload_n 0, 1, 0, 0, 0, 0, 0), some (.iload_n 1, 2, 0, 0, 0, 0, 0), some (.invokevirtual 54, 5, 25, 2, 0, 0, 0), none, none, some (.ifCond .eq 12, 8, 17, 0, 0, 0, 0), none, none, some (.aload_n 0, 9, 0, 0, 0, 0, 0), some (.getfield 15, 12, 4, 1, 1, 1, 0), none, none, some (.iload_n 1, 13, 0, 0, 0, 0, 0), some (.iaload, 14, 0, 0, 0, 0, 0), some (.goto 4, 17, 18, 0, 0, 0, 0), none, none, some (.iconst (-1), 18, 1, 1, 0, 0, 0), some (.ireturn, 19, 0, 0, 0, 0, 0)]
def T_Pi_shapeOf : List (List (Option GE)) := [T_Pi_shapeOf_0]
def T_Pi_rotationOf_0 : List (Option GE) := [some (.aload_n 0, 1, 0, 0, 0, 0, 0), some (.iload_n 1, 2, 0, 0, 0, 0, 0), some (.invokevirtual 54, 5, 25, 2, 0, 0, 0), none, none, some (.ifCond .eq 12, 8, 17, 0, 0, 0, 0), none, none, some (.aload_n 0, 9, 0, 0, 0, 0, 0), some (.getfield 19, 12, 4, 2, 1, 1, 0), none, none, some (.iload_n 1, 13, 0, 0, 0, 0, 0), some (.iaload, 14, 0, 0, 0, 0, 0), some (.goto 4, 17, 18, 0, 0, 0, 0), none, none, some (.iconst (-1), 18, 1, 1, 0, 0, 0), some (.ireturn, 19, 0, 0, 0, 0, 0)]
def T_Pi_rotationOf : List (List (Option GE)) := [T_Pi_rotationOf_0]
def T_Pi_anchorColumnOf_0 : List (Option GE) := [some (.aload_n 0, 1, 0, 0, 0, 0, 0), some (.iload_n 1, 2, 0, 0, 0, 0, 0), some (.invokevirtual 54, 5, 25, 2, 0, 0, 0), none, none, some (.ifCond .eq 12, 8, 17, 0, 0, 0, 0), none, none, some (.aload_n 0, 9, 0, 0, 0, 0, 0), some (.getfield 22, 12, 4, 3, 1, 1, 0), none, none, some (.iload_n 1, 13, 0, 0, 0, 0, 0), some (.iaload, 14, 0, 0, 0, 0, 0), some (.goto 4, 17, 18, 0, 0, 0, 0), none, none, some (.iconst (-1), 18, 1, 1, 0, 0, 0), some (.ireturn, 19, 0, 0, 0, 0, 0)]
def T_Pi_anchorColumnOf : List (List (Option GE)) := [T_Pi_anchorColumnOf_0]
def T_Pi_anchorRowOf_0 : List (Option GE) := [some (.aload_n 0, 1, 0, 0, 0, 0, 0), some (.iload_n 1, 2, 0, 0, 0, 0, 0), some (.invokevirtual 54, 5, 25, 2, 0, 0, 0), none, none, some (.ifCond .eq 12, 8, 17, 0, 0, 0, 0), none, none, some (.aload_n 0, 9, 0, 0, 0, 0, 0), some (.getfield 25, 12, 4, 4, 1, 1, 0), none, none, some (.iload_n 1, 13, 0, 0, 0, 0, 0), some (.iaload, 14, 0, 0, 0, 0, 0), some (.goto 4, 17, 18, 0, 0, 0, 0), none, none, some (.iconst (-1), 18, 1, 1, 0, 0, 0), some (.ireturn, 19, 0, 0, 0, 0, 0)]
def T_Pi_anchorRowOf : List (List (Option GE)) := [T_Pi_anchorRowOf_0]
def T_Pi_ownerOf_0 : List (Option GE) := [some (.aload_n 0, 1, 0, 0, 0, 0, 0), some (.iload_n 1, 2, 0, 0, 0, 0, 0), some (.invokevirtual 54, 5, 25, 2, 0, 0, 0), none, none, some (.ifCond .eq 12, 8, 17, 0, 0, 0, 0), none, none, some (.aload_n 0, 9, 0, 0, 0, 0, 0), some (.getfield 28, 12, 4, 5, 1, 1, 0), none, none, some (.iload_n 1, 13, 0, 0, 0, 0, 0), some (.iaload, 14, 0, 0, 0, 0, 0), some (.goto 4, 17, 18, 0, 0, 0, 0), none, none, some (.iconst (-1), 18, 1, 1, 0, 0, 0), some (.ireturn, 19, 0, 0, 0, 0, 0)]
def T_Pi_ownerOf : List (List (Option GE)) := [T_Pi_ownerOf_0]
def T_Pi_pointsOf_0 : List (Option GE) := [some (.aload_n 0, 1, 0, 0, 0, 0, 0), some (.iload_n 1, 2, 0, 0, 0, 0, 0), some (.invokevirtual 54, 5, 25, 2, 0, 0, 0), none, none, some (.ifCond .eq 12, 8, 17, 0, 0, 0, 0), none, none, some (.aload_n 0, 9, 0, 0, 0, 0, 0), some (.getfield 31, 12, 4, 6, 1, 1, 0), none, none, some (.iload_n 1, 13, 0, 0, 0, 0, 0), some (.iaload, 14, 0, 0, 0, 0, 0), some (.goto 4, 17, 18, 0, 0, 0, 0), none, none, some (.iconst (-1), 18, 1, 1, 0, 0, 0), some (.ireturn, 19, 0, 0, 0, 0, 0)]
def T_Pi_pointsOf : List (List (Option GE)) := [T_Pi_pointsOf_0]
def T_Pl_init_0 : List (Option GE) := [some (.aload_n 0, 1, 0, 0, 0, 0, 0), some (.invokespecial 3, 4, 0, 0, 0, 0, 26), none, none, some (.aload_n 0, 5, 0, 0, 0, 0, 0), some (.iconst 0, 6, 0, 0, 0, 0, 0), some (.putfield 9, 9, 5, 0, 0, 0, 0), none, none, some (.aload_n 0, 10, 0, 0, 0, 0, 0), some (.iconst 0, 11, 0, 0, 0, 0, 0), some (.putfield 15, 14, 5, 1, 0, 0, 0), none, none, some (.aload_n 0, 15, 0, 0, 0, 0, 0), some (.iconst 0, 16, 0, 0, 0, 0, 0), some (.putfield 18, 19, 5, 2, 0, 0, 0), none, none, some (.aload_n 0, 20, 0, 0, 0, 0, 0), some (.bipush 6, 22, 6, 0, 0, 0, 0), none, some (.newarray .int, 24, 0, 0, 0, 0, 0), none, some (.putfield 21, 27, 5, 3, 1, 1, 0), none, none, some (.aload_n 0, 28, 0, 0, 0, 0, 0), some (.iconst 5, 29, 5, 0, 0, 0, 0), some (.newarray .int, 31, 0, 0, 0, 0, 0), none, some (.putfield 25, 34, 5, 4, 1, 1, 0)]
def T_Pl_init_1 : List (Option GE) := [none, none, some (.return_, 35, 0, 0, 0, 0, 0)]
def T_Pl_init : List (List (Option GE)) := [T_Pl_init_0, T_Pl_init_1]
def T_Pl_clear_0 : List (Option GE) := [some (.aload_n 0, 1, 0, 0, 0, 0, 0), some (.iconst 0, 2, 0, 0, 0, 0, 0), some (.putfield 9, 5, 5, 0, 0, 0, 0), none, none, some (.aload_n 0, 6, 0, 0, 0, 0, 0), some (.iconst 0, 7, 0, 0, 0, 0, 0), some (.putfield 15, 10, 5, 1, 0, 0, 0), none, none, some (.aload_n 0, 11, 0, 0, 0, 0, 0), some (.iconst 0, 12, 0, 0, 0, 0, 0), some (.putfield 18, 15, 5, 2, 0, 0, 0), none, none, some (.iconst 0, 16, 0, 0, 0, 0, 0), some (.istore_n 1, 17, 0, 0, 0, 0, 0), some (.iload_n 1, 18, 0, 0, 0, 0, 0), some (.iconst 5, 19, 5, 0, 0, 0, 0), some (.if_icmp .ge 16, 22, 35, 0, 0, 0, 0), none, none, some (.aload_n 0, 23, 0, 0, 0, 0, 0), some (.getfield 25, 26, 5, 4, 1, 1, 0), none, none, some (.iload_n 1, 27, 0, 0, 0, 0, 0), some (.iconst 0, 28, 0, 0, 0, 0, 0), some (.iastore, 29, 0, 0, 0, 0, 0), some (.iinc 1 1, 32, 1, 0, 0, 0, 0), none, none]
def T_Pl_clear_1 : List (Option GE) := [some (.goto (-15), 35, 17, 0, 0, 0, 0), none, none, some (.return_, 36, 0, 0, 0, 0, 0)]
def T_Pl_clear : List (List (Option GE)) := [T_Pl_clear_0, T_Pl_clear_1]
def T_Pl_copyFrom_0 : List (Option GE) := [some (.aload_n 0, 1, 0, 0, 0, 0, 0), some (.aload_n 1, 2, 0, 0, 0, 0, 0), some (.getfield 9, 5, 5, 0, 0, 0, 0), none, none, some (.putfield 9, 8, 5, 0, 0, 0, 0), none, none, some (.aload_n 0, 9, 0, 0, 0, 0, 0), some (.aload_n 1, 10, 0, 0, 0, 0, 0), some (.getfield 15, 13, 5, 1, 0, 0, 0), none, none, some (.putfield 15, 16, 5, 1, 0, 0, 0), none, none, some (.aload_n 0, 17, 0, 0, 0, 0, 0), some (.aload_n 1, 18, 0, 0, 0, 0, 0), some (.getfield 18, 21, 5, 2, 0, 0, 0), none, none, some (.putfield 18, 24, 5, 2, 0, 0, 0), none, none, some (.aload_n 1, 25, 0, 0, 0, 0, 0), some (.getfield 21, 28, 5, 3, 1, 1, 0), none, none, some (.iconst 0, 29, 0, 0, 0, 0, 0), some (.aload_n 0, 30, 0, 0, 0, 0, 0), some (.getfield 21, 33, 5, 3, 1, 1, 0), none]
def T_Pl_copyFrom_1 : List (Option GE) := [none, some (.iconst 0, 34, 0, 0, 0, 0, 0), some (.bipush 6, 36, 6, 0, 0, 0, 0), none, some (.invokestatic 28, 39, 0, 0, 0, 0, 25), none, none, some (.aload_n 1, 40, 0, 0, 0, 0, 0), some (.getfield 25, 43, 5, 4, 1, 1, 0), none, none, some (.iconst 0, 44, 0, 0, 0, 0, 0), some (.aload_n 0, 45, 0, 0, 0, 0, 0), some (.getfield 25, 48, 5, 4, 1, 1, 0), none, none, some (.iconst 0, 49, 0, 0, 0, 0, 0), some (.iconst 5, 50, 5, 0, 0, 0, 0), some (.invokestatic 28, 53, 0, 0, 0, 0, 25), none, none, some (.return_, 54, 0, 0, 0, 0, 0)]
def T_Pl_copyFrom : List (List (Option GE)) := [T_Pl_copyFrom_0, T_Pl_copyFrom_1]
def T_Pl_addLetter_0 : List (Option GE) := [some (.aload_n 0, 1, 0, 0, 0, 0, 0), some (.getfield 18, 4, 5, 2, 0, 0, 0), none, none, some (.bipush 6, 6, 6, 0, 0, 0, 0), none, some (.if_icmp .ge 23, 9, 29, 0, 0, 0, 0), none, none, some (.aload_n 0, 10, 0, 0, 0, 0, 0), some (.getfield 21, 13, 5, 3, 1, 1, 0), none, none, some (.aload_n 0, 14, 0, 0, 0, 0, 0), some (.getfield 18, 17, 5, 2, 0, 0, 0), none, none, some (.iload_n 1, 18, 0, 0, 0, 0, 0), some (.iastore, 19, 0, 0, 0, 0, 0), some (.aload_n 0, 20, 0, 0, 0, 0, 0), some (.dup, 21, 0, 0, 0, 0, 0), some (.getfield 18, 24, 5, 2, 0, 0, 0), none, none, some (.iconst 1, 25, 1, 0, 0, 0, 0), some (.iadd, 26, 0, 0, 0, 0, 0), some (.putfield 18, 29, 5, 2, 0, 0, 0), none, none, some (.return_, 30, 0, 0, 0, 0, 0)]
def T_Pl_addLetter : List (List (Option GE)) := [T_Pl_addLetter_0]
def T_Pl_hasNameOf_0 : List (Option GE) := [some (.aload_n 0, 1, 0, 0, 0, 0, 0), some (.getfield 18, 4, 5, 2, 0, 0, 0), none, none, some (.aload_n 1, 5, 0, 0, 0, 0, 0), some (.getfield 18, 8, 5, 2, 0, 0, 0), none, none, some (.if_icmp .eq 5, 11, 13, 0, 0, 0, 0), none, none, some (.iconst 0, 12, 0, 0, 0, 0, 0), some (.ireturn, 13, 1, 0, 0, 0, 0), some (.iconst 0, 14, 0, 0, 0, 0, 0), some (.istore_n 2, 15, 0, 0, 0, 0, 0), some (.iload_n 2, 16, 0, 0, 0, 0, 0), some (.aload_n 0, 17, 0, 0, 0, 0, 0), some (.getfield 18, 20, 5, 2, 0, 0, 0), none, none, some (.if_icmp .ge 26, 23, 46, 0, 0, 0, 0), none, none, some (.aload_n 0, 24, 0, 0, 0, 0, 0), some (.getfield 21, 27, 5, 3, 1, 1, 0), none, none, some (.iload_n 2, 28, 0, 0, 0, 0, 0), some (.iaload, 29, 0, 0, 0, 0, 0), some (.aload_n 1, 30, 0, 0, 0, 0, 0), some (.getfield 21, 33, 5, 3, 1, 1, 0), none]
def T_Pl_hasNameOf_1 : List (Option GE) := [none, some (.iload_n 2, 34, 0, 0, 0, 0, 0), some (.iaload, 35, 0, 0, 0, 0, 0), some (.if_icmp .eq 5, 38, 40, 0, 0, 0, 0), none, none, some (.iconst 0, 39, 0, 0, 0, 0, 0), some (.ireturn, 40, 1, 0, 0, 0, 0), some (.iinc 2 1, 43, 1, 0, 0, 0, 0), none, none, some (.goto (-28), 46, 15, 0, 0, 0, 0), none, none, some (.iconst 1, 47, 1, 0, 0, 0, 0), some (.ireturn, 48, 1, 0, 0, 0, 0)]
def T_Pl_hasNameOf : List (List (Option GE)) := [T_Pl_hasNameOf_0, T_Pl_hasNameOf_1]
def T_Pl_supplyOf_0 : List (Option GE) := [some (.iload_n 1, 1, 0, 0, 0, 0, 0), some (.ifCond .lt 17, 4, 18, 0, 0, 0, 0), none, none, some (.iload_n 1, 5, 0, 0, 0, 0, 0), some (.iconst 5, 6, 5, 0, 0, 0, 0), some (.if_icmp .ge 12, 9, 18, 0, 0, 0, 0), none, none, some (.aload_n 0, 10, 0, 0, 0, 0, 0), some (.getfield 25, 13, 5, 4, 1, 1, 0), none, none, some (.iload_n 1, 14, 0, 0, 0, 0, 0), some (.iaload, 15, 0, 0, 0, 0, 0), some (.goto 4, 18, 19, 0, 0, 0, 0), none, none, some (.iconst 0, 19, 0, 0, 0, 0, 0), some (.ireturn, 20, 0, 0, 0, 0, 0)]
def T_Pl_supplyOf : List (List (Option GE)) := [T_Pl_supplyOf_0]
def T_Pl_setSupply_0 : List (Option GE) := [some (.iload_n 1, 1, 0, 0, 0, 0, 0), some (.ifCond .lt 15, 4, 16, 0, 0, 0, 0), none, none, some (.iload_n 1, 5, 0, 0, 0, 0, 0), some (.iconst 5, 6, 5, 0, 0, 0, 0), some (.if_icmp .ge 10, 9, 16, 0, 0, 0, 0), none, none, some (.aload_n 0, 10, 0, 0, 0, 0, 0), some (.getfield 25, 13, 5, 4, 1, 1, 0), none, none, some (.iload_n 1, 14, 0, 0, 0, 0, 0), some (.iload_n 2, 15, 0, 0, 0, 0, 0), some (.iastore, 16, 0, 0, 0, 0, 0), some (.return_, 17, 0, 0, 0, 0, 0)]
def T_Pl_setSupply : List (List (Option GE)) := [T_Pl_setSupply_0]
def T_Rd_init_0 : List (Option GE) := [some (.aload_n 0, 1, 0, 0, 0, 0, 0), some (.invokespecial 3, 4, 0, 0, 0, 0, 26), none, none, some (.aload_n 0, 5, 0, 0, 0, 0, 0), some (.iconst 0, 6, 0, 0, 0, 0, 0), some (.putfield 9, 9, 6, 0, 0, 0, 0), none, none, some (.aload_n 0, 10, 0, 0, 0, 0, 0), some (.iconst 0, 11, 0, 0, 0, 0, 0), some (.putfield 15, 14, 6, 1, 0, 0, 0), none, none, some (.aload_n 0, 15, 0, 0, 0, 0, 0), some (.iconst (-1), 16, 1, 1, 0, 0, 0), some (.putfield 18, 19, 6, 2, 0, 0, 0), none, none, some (.aload_n 0, 20, 0, 0, 0, 0, 0), some (.iconst 0, 21, 0, 0, 0, 0, 0), some (.putfield 21, 24, 6, 3, 0, 0, 0), none, none, some (.aload_n 0, 25, 0, 0, 0, 0, 0), some (.new 24, 28, 8, 6, 0, 0, 0), none, none, some (.dup, 29, 0, 0, 0, 0, 0), some (.invokespecial 26, 32, 71, 1, 16, 427, 1), none, none]
def T_Rd_init_1 : List (Option GE) := [some (.putfield 27, 35, 6, 4, 1, 1, 0), none, none, some (.aload_n 0, 36, 0, 0, 0, 0, 0), some (.new 31, 39, 2, 11, 0, 0, 0), none, none, some (.dup, 40, 0, 0, 0, 0, 0), some (.invokespecial 33, 43, 8, 1, 5, 20, 1), none, none, some (.putfield 34, 46, 6, 5, 1, 1, 0), none, none, some (.aload_n 0, 47, 0, 0, 0, 0, 0), some (.sipush 600, 50, 600, 0, 0, 0, 0), none, none, some (.newarray .int, 52, 0, 0, 0, 0, 0), none, some (.putfield 38, 55, 6, 6, 1, 1, 0), none, none, some (.aload_n 0, 56, 0, 0, 0, 0, 0), some (.iconst 0, 57, 0, 0, 0, 0, 0), some (.putfield 42, 60, 6, 7, 0, 0, 0), none, none, some (.aload_n 0, 61, 0, 0, 0, 0, 0), some (.iconst 0, 62, 0, 0, 0, 0, 0), some (.putfield 45, 65, 6, 8, 0, 0, 0), none]
def T_Rd_init_2 : List (Option GE) := [none, some (.aload_n 0, 66, 0, 0, 0, 0, 0), some (.iconst 0, 67, 0, 0, 0, 0, 0), some (.putfield 48, 70, 6, 9, 0, 0, 0), none, none, some (.aload_n 0, 71, 0, 0, 0, 0, 0), some (.iconst 0, 72, 0, 0, 0, 0, 0), some (.putfield 51, 75, 6, 10, 0, 0, 0), none, none, some (.aload_n 0, 76, 0, 0, 0, 0, 0), some (.iconst 0, 77, 0, 0, 0, 0, 0), some (.putfield 54, 80, 6, 11, 0, 0, 0), none, none, some (.aload_n 0, 81, 0, 0, 0, 0, 0), some (.iconst 0, 82, 0, 0, 0, 0, 0), some (.putfield 57, 85, 6, 12, 0, 0, 0), none, none, some (.aload_n 0, 86, 0, 0, 0, 0, 0), some (.iconst 0, 87, 0, 0, 0, 0, 0), some (.putfield 60, 90, 6, 13, 0, 0, 0), none, none, some (.return_, 91, 0, 0, 0, 0, 0)]
def T_Rd_init : List (List (Option GE)) := [T_Rd_init_0, T_Rd_init_1, T_Rd_init_2]
def T_Rd_hasRoom_0 : List (Option GE) := [some (.aload_n 0, 1, 0, 0, 0, 0, 0), some (.getfield 9, 4, 6, 0, 0, 0, 0), none, none, some (.sipush 580, 7, 580, 0, 0, 0, 0), none, none, some (.if_icmp .gt 7, 10, 14, 0, 0, 0, 0), none, none, some (.iconst 1, 11, 1, 0, 0, 0, 0), some (.goto 4, 14, 15, 0, 0, 0, 0), none, none, some (.iconst 0, 15, 0, 0, 0, 0, 0), some (.ireturn, 16, 1, 0, 0, 0, 0)]
def T_Rd_hasRoom : List (List (Option GE)) := [T_Rd_hasRoom_0]
def T_Rd_writeText_0 : List (Option GE) := [some (.iconst 0, 1, 0, 0, 0, 0, 0), some (.istore_n 2, 2, 0, 0, 0, 0, 0), some (.iload_n 2, 3, 0, 0, 0, 0, 0), some (.aload_n 1, 4, 0, 0, 0, 0, 0), some (.invokevirtual 63, 7, 0, 0, 0, 0, 23), none, none, some (.if_icmp .ge 18, 10, 25, 0, 0, 0, 0), none, none, some (.aload_n 0, 11, 0, 0, 0, 0, 0), some (.aload_n 1, 12, 0, 0, 0, 0, 0), some (.iload_n 2, 13, 0, 0, 0, 0, 0), some (.invokevirtual 68, 16, 0, 0, 0, 0, 24), none, none, some (.invokevirtual 72, 19, 43, 2, 0, 0, 1), none, none, some (.iinc 2 1, 22, 1, 0, 0, 0, 0), none, none, some (.goto (-20), 25, 2, 0, 0, 0, 0), none, none, some (.return_, 26, 0, 0, 0, 0, 0)]
def T_Rd_writeText : List (List (Option GE)) := [T_Rd_writeText_0]
def T_Rd_writeFour_0 : List (Option GE) := [some (.aload_n 0, 1, 0, 0, 0, 0, 0), some (.iload_n 1, 2, 0, 0, 0, 0, 0), some (.bipush 24, 4, 24, 0, 0, 0, 0), none, some (.iushr, 5, 0, 0, 0, 0, 0), some (.invokevirtual 72, 8, 43, 2, 0, 0, 1), none, none, some (.aload_n 0, 9, 0, 0, 0, 0, 0), some (.iload_n 1, 10, 0, 0, 0, 0, 0), some (.bipush 16, 12, 16, 0, 0, 0, 0), none, some (.iushr, 13, 0, 0, 0, 0, 0), some (.invokevirtual 72, 16, 43, 2, 0, 0, 1), none, none, some (.aload_n 0, 17, 0, 0, 0, 0, 0), some (.iload_n 1, 18, 0, 0, 0, 0, 0), some (.bipush 8, 20, 8, 0, 0, 0, 0), none, some (.iushr, 21, 0, 0, 0, 0, 0), some (.invokevirtual 72, 24, 43, 2, 0, 0, 1), none, none, some (.aload_n 0, 25, 0, 0, 0, 0, 0), some (.iload_n 1, 26, 0, 0, 0, 0, 0), some (.invokevirtual 72, 29, 43, 2, 0, 0, 1), none, none, some (.return_, 30, 0, 0, 0, 0, 0)]
def T_Rd_writeFour : List (List (Option GE)) := [T_Rd_writeFour_0]
def T_Rd_writeByte_0 : List (Option GE) := [some (.aload_n 0, 1, 0, 0, 0, 0, 0), some (.getfield 9, 4, 6, 0, 0, 0, 0), none, none, some (.ifCond .lt 37, 7, 41, 0, 0, 0, 0), none, none, some (.aload_n 0, 8, 0, 0, 0, 0, 0), some (.getfield 9, 11, 6, 0, 0, 0, 0), none, none, some (.sipush 600, 14, 600, 0, 0, 0, 0), none, none, some (.if_icmp .ge 27, 17, 41, 0, 0, 0, 0), none, none, some (.aload_n 0, 18, 0, 0, 0, 0, 0), some (.getfield 38, 21, 6, 6, 1, 1, 0), none, none, some (.aload_n 0, 22, 0, 0, 0, 0, 0), some (.getfield 9, 25, 6, 0, 0, 0, 0), none, none, some (.iload_n 1, 26, 0, 0, 0, 0, 0), some (.sipush 255, 29, 255, 0, 0, 0, 0), none, none, some (.iand, 30, 0, 0, 0, 0, 0), some (.iastore, 31, 0, 0, 0, 0, 0), some (.aload_n 0, 32, 0, 0, 0, 0, 0)]
def T_Rd_writeByte_1 : List (Option GE) := [some (.dup, 33, 0, 0, 0, 0, 0), some (.getfield 9, 36, 6, 0, 0, 0, 0), none, none, some (.iconst 1, 37, 1, 0, 0, 0, 0), some (.iadd, 38, 0, 0, 0, 0, 0), some (.putfield 9, 41, 6, 0, 0, 0, 0), none, none, some (.return_, 42, 0, 0, 0, 0, 0)]
def T_Rd_writeByte : List (List (Option GE)) := [T_Rd_writeByte_0, T_Rd_writeByte_1]
def T_Rd_startSetup_0 : List (Option GE) := [some (.aload_n 0, 1, 0, 0, 0, 0, 0), some (.iconst 0, 2, 0, 0, 0, 0, 0), some (.putfield 21, 5, 6, 3, 0, 0, 0), none, none, some (.aload_n 0, 6, 0, 0, 0, 0, 0), some (.iconst 0, 7, 0, 0, 0, 0, 0), some (.putfield 15, 10, 6, 1, 0, 0, 0), none, none, some (.aload_n 0, 11, 0, 0, 0, 0, 0), some (.iconst (-1), 12, 1, 1, 0, 0, 0), some (.putfield 18, 15, 6, 2, 0, 0, 0), none, none, some (.aload_n 0, 16, 0, 0, 0, 0, 0), some (.iconst 0, 17, 0, 0, 0, 0, 0), some (.putfield 42, 20, 6, 7, 0, 0, 0), none, none, some (.aload_n 0, 21, 0, 0, 0, 0, 0), some (.invokevirtual 76, 24, 59, 1, 0, 0, 1), none, none, some (.return_, 25, 0, 0, 0, 0, 0)]
def T_Rd_startSetup : List (List (Option GE)) := [T_Rd_startSetup_0]
def T_Rd_readSetup_0 : List (Option GE) := [some (.aload_n 0, 1, 0, 0, 0, 0, 0), some (.invokevirtual 86, 4, 47, 1, 0, 0, 0), none, none, some (.ifCond .eq 37, 7, 41, 0, 0, 0, 0), none, none, some (.aload_n 0, 8, 0, 0, 0, 0, 0), some (.invokevirtual 90, 11, 48, 1, 0, 0, 0), none, none, some (.ifCond .eq 30, 14, 41, 0, 0, 0, 0), none, none, some (.aload_n 0, 15, 0, 0, 0, 0, 0), some (.invokevirtual 93, 18, 49, 1, 0, 0, 0), none, none, some (.ifCond .eq 23, 21, 41, 0, 0, 0, 0), none, none, some (.aload_n 0, 22, 0, 0, 0, 0, 0), some (.iconst 0, 23, 0, 0, 0, 0, 0), some (.invokevirtual 96, 26, 50, 2, 0, 0, 0), none, none, some (.ifCond .eq 15, 29, 41, 0, 0, 0, 0), none, none, some (.aload_n 0, 30, 0, 0, 0, 0, 0), some (.iconst 1, 31, 1, 0, 0, 0, 0), some (.invokevirtual 96, 34, 50, 2, 0, 0, 0)]
def T_Rd_readSetup_1 : List (Option GE) := [none, none, some (.ifCond .eq 7, 37, 41, 0, 0, 0, 0), none, none, some (.iconst 1, 38, 1, 0, 0, 0, 0), some (.goto 4, 41, 42, 0, 0, 0, 0), none, none, some (.iconst 0, 42, 0, 0, 0, 0, 0), some (.ireturn, 43, 1, 0, 0, 0, 0)]
def T_Rd_readSetup : List (List (Option GE)) := [T_Rd_readSetup_0, T_Rd_readSetup_1]
def T_Rd_readCommands_0 : List (Option GE) := [some (.iconst 0, 1, 0, 0, 0, 0, 0), some (.istore_n 1, 2, 0, 0, 0, 0, 0), some (.iload_n 1, 3, 0, 0, 0, 0, 0), some (.sipush 600, 6, 600, 0, 0, 0, 0), none, none, some (.if_icmp .gt 132, 9, 138, 0, 0, 0, 0), none, none, some (.aload_n 0, 10, 0, 0, 0, 0, 0), some (.getfield 45, 13, 6, 8, 0, 0, 0), none, none, some (.ifCond .eq 125, 16, 138, 0, 0, 0, 0), none, none, some (.aload_n 0, 17, 0, 0, 0, 0, 0), some (.ldc 100, 19, 100023, 0, 0, 0, 1), none, some (.invokevirtual 102, 22, 62, 2, 0, 0, 0), none, none, some (.ifCond .eq 11, 25, 33, 0, 0, 0, 0), none, none, some (.aload_n 0, 26, 0, 0, 0, 0, 0), some (.invokevirtual 106, 29, 52, 1, 0, 0, 0), none, none, some (.istore_n 2, 30, 0, 0, 0, 0, 0), some (.goto 79, 33, 109, 0, 0, 0, 0), none]
def T_Rd_readCommands_1 : List (Option GE) := [none, some (.aload_n 0, 34, 0, 0, 0, 0, 0), some (.ldc 109, 36, 100019, 0, 0, 0, 1), none, some (.invokevirtual 102, 39, 62, 2, 0, 0, 0), none, none, some (.ifCond .eq 11, 42, 50, 0, 0, 0, 0), none, none, some (.aload_n 0, 43, 0, 0, 0, 0, 0), some (.invokevirtual 111, 46, 53, 1, 0, 0, 0), none, none, some (.istore_n 2, 47, 0, 0, 0, 0, 0), some (.goto 62, 50, 109, 0, 0, 0, 0), none, none, some (.aload_n 0, 51, 0, 0, 0, 0, 0), some (.ldc 114, 53, 100029, 0, 0, 0, 1), none, some (.invokevirtual 102, 56, 62, 2, 0, 0, 0), none, none, some (.ifCond .eq 47, 59, 103, 0, 0, 0, 0), none, none, some (.aload_n 0, 60, 0, 0, 0, 0, 0), some (.getfield 27, 63, 6, 4, 1, 1, 0), none, none, some (.aload_n 0, 64, 0, 0, 0, 0, 0)]
def T_Rd_readCommands_2 : List (Option GE) := [some (.getfield 34, 67, 6, 5, 1, 1, 0), none, none, some (.invokevirtual 116, 70, 80, 2, 0, 0, 0), none, none, some (.ifCond .ne 12, 73, 82, 0, 0, 0, 0), none, none, some (.aload_n 0, 74, 0, 0, 0, 0, 0), some (.bipush 6, 76, 6, 0, 0, 0, 0), none, some (.invokevirtual 120, 79, 58, 2, 0, 0, 0), none, none, some (.ifCond .eq 7, 82, 86, 0, 0, 0, 0), none, none, some (.iconst 1, 83, 1, 0, 0, 0, 0), some (.goto 4, 86, 87, 0, 0, 0, 0), none, none, some (.iconst 0, 87, 0, 0, 0, 0, 0), some (.istore_n 2, 88, 0, 0, 0, 0, 0), some (.iload_n 2, 89, 0, 0, 0, 0, 0), some (.ifCond .eq 20, 92, 109, 0, 0, 0, 0), none, none, some (.aload_n 0, 93, 0, 0, 0, 0, 0), some (.getfield 27, 96, 6, 4, 1, 1, 0), none, none]
def T_Rd_readCommands_3 : List (Option GE) := [some (.invokevirtual 123, 99, 81, 1, 0, 0, 0), none, none, some (.pop, 100, 0, 0, 0, 0, 0), some (.goto 9, 103, 109, 0, 0, 0, 0), none, none, some (.aload_n 0, 104, 0, 0, 0, 0, 0), some (.iconst 1, 105, 1, 0, 0, 0, 0), some (.invokevirtual 120, 108, 58, 2, 0, 0, 0), none, none, some (.istore_n 2, 109, 0, 0, 0, 0, 0), some (.iload_n 2, 110, 0, 0, 0, 0, 0), some (.ifCond .eq 10, 113, 120, 0, 0, 0, 0), none, none, some (.aload_n 0, 114, 0, 0, 0, 0, 0), some (.invokevirtual 126, 117, 57, 1, 0, 0, 0), none, none, some (.ifCond .ne 5, 120, 122, 0, 0, 0, 0), none, none, some (.iconst 0, 121, 0, 0, 0, 0, 0), some (.ireturn, 122, 1, 0, 0, 0, 0), some (.aload_n 0, 123, 0, 0, 0, 0, 0), some (.dup, 124, 0, 0, 0, 0, 0), some (.getfield 21, 127, 6, 3, 0, 0, 0), none, none, some (.iconst 1, 128, 1, 0, 0, 0, 0)]
def T_Rd_readCommands_4 : List (Option GE) := [some (.iadd, 129, 0, 0, 0, 0, 0), some (.putfield 21, 132, 6, 3, 0, 0, 0), none, none, some (.iinc 1 1, 135, 1, 0, 0, 0, 0), none, none, some (.goto (-133), 138, 2, 0, 0, 0, 0), none, none, some (.iconst 1, 139, 1, 0, 0, 0, 0), some (.ireturn, 140, 1, 0, 0, 0, 0)]
def T_Rd_readCommands : List (List (Option GE)) := [T_Rd_readCommands_0, T_Rd_readCommands_1, T_Rd_readCommands_2, T_Rd_readCommands_3, T_Rd_readCommands_4]
def T_Rd_readSize_0 : List (Option GE) := [some (.aload_n 0, 1, 0, 0, 0, 0, 0), some (.ldc 129, 3, 100017, 0, 0, 0, 1), none, some (.invokevirtual 102, 6, 62, 2, 0, 0, 0), none, none, some (.ifCond .ne 9, 9, 15, 0, 0, 0, 0), none, none, some (.aload_n 0, 10, 0, 0, 0, 0, 0), some (.iconst 1, 11, 1, 0, 0, 0, 0), some (.invokevirtual 120, 14, 58, 2, 0, 0, 0), none, none, some (.ireturn, 15, 1, 0, 0, 0, 0), some (.aload_n 0, 16, 0, 0, 0, 0, 0), some (.iconst 3, 17, 3, 0, 0, 0, 0), some (.bipush 8, 19, 8, 0, 0, 0, 0), none, some (.invokevirtual 131, 22, 56, 3, 0, 0, 0), none, none, some (.istore_n 1, 23, 0, 0, 0, 0, 0), some (.iload_n 1, 24, 0, 0, 0, 0, 0), some (.iconst (-1), 25, 1, 1, 0, 0, 0), some (.if_icmp .ne 5, 28, 30, 0, 0, 0, 0), none, none, some (.iconst 0, 29, 0, 0, 0, 0, 0), some (.ireturn, 30, 1, 0, 0, 0, 0), some (.aload_n 0, 31, 0, 0, 0, 0, 0), some (.iconst 3, 32, 3, 0, 0, 0, 0)]
def T_Rd_readSize_1 : List (Option GE) := [some (.bipush 8, 34, 8, 0, 0, 0, 0), none, some (.invokevirtual 131, 37, 56, 3, 0, 0, 0), none, none, some (.istore_n 2, 38, 0, 0, 0, 0, 0), some (.iload_n 2, 39, 0, 0, 0, 0, 0), some (.iconst (-1), 40, 1, 1, 0, 0, 0), some (.if_icmp .ne 5, 43, 45, 0, 0, 0, 0), none, none, some (.iconst 0, 44, 0, 0, 0, 0, 0), some (.ireturn, 45, 1, 0, 0, 0, 0), some (.aload_n 0, 46, 0, 0, 0, 0, 0), some (.getfield 27, 49, 6, 4, 1, 1, 0), none, none, some (.iload_n 1, 50, 0, 0, 0, 0, 0), some (.iload_n 2, 51, 0, 0, 0, 0, 0), some (.invokevirtual 135, 54, 72, 3, 0, 0, 1), none, none, some (.aload_n 0, 55, 0, 0, 0, 0, 0), some (.invokevirtual 126, 58, 57, 1, 0, 0, 0), none, none, some (.ireturn, 59, 1, 0, 0, 0, 0)]
def T_Rd_readSize : List (List (Option GE)) := [T_Rd_readSize_0, T_Rd_readSize_1]
def T_Rd_readBlocks_0 : List (Option GE) := [some (.iconst 0, 1, 0, 0, 0, 0, 0), some (.istore_n 1, 2, 0, 0, 0, 0, 0), some (.iload_n 1, 3, 0, 0, 0, 0, 0), some (.sipush 600, 6, 600, 0, 0, 0, 0), none, none, some (.if_icmp .gt 114, 9, 120, 0, 0, 0, 0), none, none, some (.aload_n 0, 10, 0, 0, 0, 0, 0), some (.ldc 139, 12, 100018, 0, 0, 0, 1), none, some (.invokevirtual 102, 15, 62, 2, 0, 0, 0), none, none, some (.ifCond .eq 105, 18, 120, 0, 0, 0, 0), none, none, some (.aload_n 0, 19, 0, 0, 0, 0, 0), some (.iconst 0, 20, 0, 0, 0, 0, 0), some (.aload_n 0, 21, 0, 0, 0, 0, 0), some (.getfield 27, 24, 6, 4, 1, 1, 0), none, none, some (.getfield 141, 27, 8, 0, 1, 1, 0), none, none, some (.getfield 144, 30, 9, 0, 0, 0, 0), none, none, some (.iconst 1, 31, 1, 0, 0, 0, 0), some (.isub, 32, 0, 0, 0, 0, 0)]
def T_Rd_readBlocks_1 : List (Option GE) := [some (.invokevirtual 131, 35, 56, 3, 0, 0, 0), none, none, some (.istore_n 2, 36, 0, 0, 0, 0, 0), some (.iload_n 2, 37, 0, 0, 0, 0, 0), some (.iconst (-1), 38, 1, 1, 0, 0, 0), some (.if_icmp .ne 5, 41, 43, 0, 0, 0, 0), none, none, some (.iconst 0, 42, 0, 0, 0, 0, 0), some (.ireturn, 43, 1, 0, 0, 0, 0), some (.aload_n 0, 44, 0, 0, 0, 0, 0), some (.iconst 0, 45, 0, 0, 0, 0, 0), some (.aload_n 0, 46, 0, 0, 0, 0, 0), some (.getfield 27, 49, 6, 4, 1, 1, 0), none, none, some (.getfield 141, 52, 8, 0, 1, 1, 0), none, none, some (.getfield 149, 55, 9, 1, 0, 0, 0), none, none, some (.iconst 1, 56, 1, 0, 0, 0, 0), some (.isub, 57, 0, 0, 0, 0, 0), some (.invokevirtual 131, 60, 56, 3, 0, 0, 0), none, none, some (.istore_n 3, 61, 0, 0, 0, 0, 0), some (.iload_n 3, 62, 0, 0, 0, 0, 0), some (.iconst (-1), 63, 1, 1, 0, 0, 0), some (.if_icmp .ne 5, 66, 68, 0, 0, 0, 0)]
def T_Rd_readBlocks_2 : List (Option GE) := [none, none, some (.iconst 0, 67, 0, 0, 0, 0, 0), some (.ireturn, 68, 1, 0, 0, 0, 0), some (.aload_n 0, 69, 0, 0, 0, 0, 0), some (.getfield 27, 72, 6, 4, 1, 1, 0), none, none, some (.getfield 141, 75, 8, 0, 1, 1, 0), none, none, some (.iload_n 2, 76, 0, 0, 0, 0, 0), some (.iload_n 3, 77, 0, 0, 0, 0, 0), some (.invokevirtual 152, 80, 89, 3, 0, 0, 0), none, none, some (.bipush (-2), 82, 2, 1, 0, 0, 0), none, some (.if_icmp .ne 9, 85, 91, 0, 0, 0, 0), none, none, some (.aload_n 0, 86, 0, 0, 0, 0, 0), some (.iconst 4, 87, 4, 0, 0, 0, 0), some (.invokevirtual 120, 90, 58, 2, 0, 0, 0), none, none, some (.ireturn, 91, 1, 0, 0, 0, 0), some (.aload_n 0, 92, 0, 0, 0, 0, 0), some (.getfield 27, 95, 6, 4, 1, 1, 0), none, none, some (.getfield 141, 98, 8, 0, 1, 1, 0)]
def T_Rd_readBlocks_3 : List (Option GE) := [none, none, some (.iload_n 2, 99, 0, 0, 0, 0, 0), some (.iload_n 3, 100, 0, 0, 0, 0, 0), some (.bipush (-2), 102, 2, 1, 0, 0, 0), none, some (.invokevirtual 155, 105, 90, 4, 0, 0, 1), none, none, some (.aload_n 0, 106, 0, 0, 0, 0, 0), some (.invokevirtual 126, 109, 57, 1, 0, 0, 0), none, none, some (.ifCond .ne 5, 112, 114, 0, 0, 0, 0), none, none, some (.iconst 0, 113, 0, 0, 0, 0, 0), some (.ireturn, 114, 1, 0, 0, 0, 0), some (.iinc 1 1, 117, 1, 0, 0, 0, 0), none, none, some (.goto (-115), 120, 2, 0, 0, 0, 0), none, none, some (.iconst 1, 121, 1, 0, 0, 0, 0), some (.ireturn, 122, 1, 0, 0, 0, 0)]
def T_Rd_readBlocks : List (List (Option GE)) := [T_Rd_readBlocks_0, T_Rd_readBlocks_1, T_Rd_readBlocks_2, T_Rd_readBlocks_3]
def T_Rd_readFreeStraps_0 : List (Option GE) := [some (.iconst 0, 1, 0, 0, 0, 0, 0), some (.istore_n 1, 2, 0, 0, 0, 0, 0), some (.iload_n 1, 3, 0, 0, 0, 0, 0), some (.sipush 600, 6, 600, 0, 0, 0, 0), none, none, some (.if_icmp .gt 120, 9, 126, 0, 0, 0, 0), none, none, some (.aload_n 0, 10, 0, 0, 0, 0, 0), some (.ldc 109, 12, 100019, 0, 0, 0, 1), none, some (.invokevirtual 102, 15, 62, 2, 0, 0, 0), none, none, some (.ifCond .eq 111, 18, 126, 0, 0, 0, 0), none, none, some (.aload_n 0, 19, 0, 0, 0, 0, 0), some (.invokevirtual 159, 22, 54, 1, 0, 0, 0), none, none, some (.ifCond .ne 5, 25, 27, 0, 0, 0, 0), none, none, some (.iconst 0, 26, 0, 0, 0, 0, 0), some (.ireturn, 27, 1, 0, 0, 0, 0), some (.aload_n 0, 28, 0, 0, 0, 0, 0), some (.getfield 27, 31, 6, 4, 1, 1, 0), none, none, some (.getfield 141, 34, 8, 0, 1, 1, 0)]
def T_Rd_readFreeStraps_1 : List (Option GE) := [none, none, some (.aload_n 0, 35, 0, 0, 0, 0, 0), some (.getfield 54, 38, 6, 11, 0, 0, 0), none, none, some (.aload_n 0, 39, 0, 0, 0, 0, 0), some (.getfield 57, 42, 6, 12, 0, 0, 0), none, none, some (.aload_n 0, 43, 0, 0, 0, 0, 0), some (.getfield 60, 46, 6, 13, 0, 0, 0), none, none, some (.invokevirtual 162, 49, 91, 4, 0, 0, 0), none, none, some (.ifCond .eq 9, 52, 58, 0, 0, 0, 0), none, none, some (.aload_n 0, 53, 0, 0, 0, 0, 0), some (.iconst 4, 54, 4, 0, 0, 0, 0), some (.invokevirtual 120, 57, 58, 2, 0, 0, 0), none, none, some (.ireturn, 58, 1, 0, 0, 0, 0), some (.aload_n 0, 59, 0, 0, 0, 0, 0), some (.getfield 27, 62, 6, 4, 1, 1, 0), none, none, some (.getfield 141, 65, 8, 0, 1, 1, 0), none]
def T_Rd_readFreeStraps_2 : List (Option GE) := [none, some (.aload_n 0, 66, 0, 0, 0, 0, 0), some (.getfield 54, 69, 6, 11, 0, 0, 0), none, none, some (.aload_n 0, 70, 0, 0, 0, 0, 0), some (.getfield 57, 73, 6, 12, 0, 0, 0), none, none, some (.aload_n 0, 74, 0, 0, 0, 0, 0), some (.getfield 60, 77, 6, 13, 0, 0, 0), none, none, some (.invokevirtual 166, 80, 94, 4, 0, 0, 0), none, none, some (.ifCond .eq 9, 83, 89, 0, 0, 0, 0), none, none, some (.aload_n 0, 84, 0, 0, 0, 0, 0), some (.iconst 5, 85, 5, 0, 0, 0, 0), some (.invokevirtual 120, 88, 58, 2, 0, 0, 0), none, none, some (.ireturn, 89, 1, 0, 0, 0, 0), some (.aload_n 0, 90, 0, 0, 0, 0, 0), some (.getfield 27, 93, 6, 4, 1, 1, 0), none, none, some (.getfield 141, 96, 8, 0, 1, 1, 0), none, none]
def T_Rd_readFreeStraps_3 : List (Option GE) := [some (.aload_n 0, 97, 0, 0, 0, 0, 0), some (.getfield 54, 100, 6, 11, 0, 0, 0), none, none, some (.aload_n 0, 101, 0, 0, 0, 0, 0), some (.getfield 57, 104, 6, 12, 0, 0, 0), none, none, some (.aload_n 0, 105, 0, 0, 0, 0, 0), some (.getfield 60, 108, 6, 13, 0, 0, 0), none, none, some (.invokevirtual 169, 111, 92, 4, 0, 0, 1), none, none, some (.aload_n 0, 112, 0, 0, 0, 0, 0), some (.invokevirtual 126, 115, 57, 1, 0, 0, 0), none, none, some (.ifCond .ne 5, 118, 120, 0, 0, 0, 0), none, none, some (.iconst 0, 119, 0, 0, 0, 0, 0), some (.ireturn, 120, 1, 0, 0, 0, 0), some (.iinc 1 1, 123, 1, 0, 0, 0, 0), none, none, some (.goto (-121), 126, 2, 0, 0, 0, 0), none, none, some (.iconst 1, 127, 1, 0, 0, 0, 0), some (.ireturn, 128, 1, 0, 0, 0, 0)]
def T_Rd_readFreeStraps : List (List (Option GE)) := [T_Rd_readFreeStraps_0, T_Rd_readFreeStraps_1, T_Rd_readFreeStraps_2, T_Rd_readFreeStraps_3]
def T_Rd_readPlayer_0 : List (Option GE) := [some (.aload_n 0, 1, 0, 0, 0, 0, 0), some (.ldc 172, 3, 100022, 0, 0, 0, 1), none, some (.invokevirtual 102, 6, 62, 2, 0, 0, 0), none, none, some (.ifCond .ne 9, 9, 15, 0, 0, 0, 0), none, none, some (.aload_n 0, 10, 0, 0, 0, 0, 0), some (.iconst 1, 11, 1, 0, 0, 0, 0), some (.invokevirtual 120, 14, 58, 2, 0, 0, 0), none, none, some (.ireturn, 15, 1, 0, 0, 0, 0), some (.aload_n 0, 16, 0, 0, 0, 0, 0), some (.iload_n 1, 17, 0, 0, 0, 0, 0), some (.invokevirtual 174, 20, 51, 2, 0, 0, 0), none, none, some (.ifCond .ne 5, 23, 25, 0, 0, 0, 0), none, none, some (.iconst 0, 24, 0, 0, 0, 0, 0), some (.ireturn, 25, 1, 0, 0, 0, 0), some (.iconst 0, 26, 0, 0, 0, 0, 0), some (.istore_n 2, 27, 0, 0, 0, 0, 0), some (.iload_n 2, 28, 0, 0, 0, 0, 0), some (.iconst 5, 29, 5, 0, 0, 0, 0), some (.if_icmp .ge 37, 32, 66, 0, 0, 0, 0), none, none]
def T_Rd_readPlayer_1 : List (Option GE) := [some (.aload_n 0, 33, 0, 0, 0, 0, 0), some (.iconst 0, 34, 0, 0, 0, 0, 0), some (.bipush 9, 36, 9, 0, 0, 0, 0), none, some (.invokevirtual 131, 39, 56, 3, 0, 0, 0), none, none, some (.istore_n 3, 40, 0, 0, 0, 0, 0), some (.iload_n 3, 41, 0, 0, 0, 0, 0), some (.iconst (-1), 42, 1, 1, 0, 0, 0), some (.if_icmp .ne 5, 45, 47, 0, 0, 0, 0), none, none, some (.iconst 0, 46, 0, 0, 0, 0, 0), some (.ireturn, 47, 1, 0, 0, 0, 0), some (.aload_n 0, 48, 0, 0, 0, 0, 0), some (.getfield 27, 51, 6, 4, 1, 1, 0), none, none, some (.iload_n 1, 52, 0, 0, 0, 0, 0), some (.invokevirtual 177, 55, 75, 2, 0, 0, 2), none, none, some (.iload_n 2, 56, 0, 0, 0, 0, 0), some (.iload_n 3, 57, 0, 0, 0, 0, 0), some (.invokevirtual 181, 60, 38, 3, 0, 0, 1), none, none, some (.iinc 2 1, 63, 1, 0, 0, 0, 0), none, none, some (.goto (-36), 66, 27, 0, 0, 0, 0)]
def T_Rd_readPlayer_2 : List (Option GE) := [none, none, some (.aload_n 0, 67, 0, 0, 0, 0, 0), some (.iconst 0, 68, 0, 0, 0, 0, 0), some (.bipush 9, 70, 9, 0, 0, 0, 0), none, some (.invokevirtual 131, 73, 56, 3, 0, 0, 0), none, none, some (.istore_n 2, 74, 0, 0, 0, 0, 0), some (.iload_n 2, 75, 0, 0, 0, 0, 0), some (.iconst (-1), 76, 1, 1, 0, 0, 0), some (.if_icmp .ne 5, 79, 81, 0, 0, 0, 0), none, none, some (.iconst 0, 80, 0, 0, 0, 0, 0), some (.ireturn, 81, 1, 0, 0, 0, 0), some (.aload_n 0, 82, 0, 0, 0, 0, 0), some (.getfield 27, 85, 6, 4, 1, 1, 0), none, none, some (.iload_n 1, 86, 0, 0, 0, 0, 0), some (.invokevirtual 177, 89, 75, 2, 0, 0, 2), none, none, some (.iload_n 2, 90, 0, 0, 0, 0, 0), some (.putfield 186, 93, 5, 1, 0, 0, 0), none, none, some (.aload_n 0, 94, 0, 0, 0, 0, 0), some (.invokevirtual 126, 97, 57, 1, 0, 0, 0), none]
def T_Rd_readPlayer_3 : List (Option GE) := [none, some (.ireturn, 98, 1, 0, 0, 0, 0)]
def T_Rd_readPlayer : List (List (Option GE)) := [T_Rd_readPlayer_0, T_Rd_readPlayer_1, T_Rd_readPlayer_2, T_Rd_readPlayer_3]
def T_Rd_readName_0 : List (Option GE) := [some (.aload_n 0, 1, 0, 0, 0, 0, 0), some (.invokevirtual 76, 4, 59, 1, 0, 0, 1), none, none, some (.aload_n 0, 5, 0, 0, 0, 0, 0), some (.getfield 45, 8, 6, 8, 0, 0, 0), none, none, some (.iconst 1, 9, 1, 0, 0, 0, 0), some (.if_icmp .ne 17, 12, 26, 0, 0, 0, 0), none, none, some (.aload_n 0, 13, 0, 0, 0, 0, 0), some (.getfield 42, 16, 6, 7, 0, 0, 0), none, none, some (.aload_n 0, 17, 0, 0, 0, 0, 0), some (.getfield 48, 20, 6, 9, 0, 0, 0), none, none, some (.isub, 21, 0, 0, 0, 0, 0), some (.bipush 6, 23, 6, 0, 0, 0, 0), none, some (.if_icmp .le 9, 26, 32, 0, 0, 0, 0), none, none, some (.aload_n 0, 27, 0, 0, 0, 0, 0), some (.iconst 1, 28, 1, 0, 0, 0, 0), some (.invokevirtual 120, 31, 58, 2, 0, 0, 0), none, none, some (.ireturn, 32, 1, 0, 0, 0, 0)]
def T_Rd_readName_1 : List (Option GE) := [some (.aload_n 0, 33, 0, 0, 0, 0, 0), some (.getfield 48, 36, 6, 9, 0, 0, 0), none, none, some (.istore_n 2, 37, 0, 0, 0, 0, 0), some (.iload_n 2, 38, 0, 0, 0, 0, 0), some (.aload_n 0, 39, 0, 0, 0, 0, 0), some (.getfield 42, 42, 6, 7, 0, 0, 0), none, none, some (.if_icmp .ge 25, 45, 67, 0, 0, 0, 0), none, none, some (.aload_n 0, 46, 0, 0, 0, 0, 0), some (.getfield 27, 49, 6, 4, 1, 1, 0), none, none, some (.iload_n 1, 50, 0, 0, 0, 0, 0), some (.invokevirtual 177, 53, 75, 2, 0, 0, 2), none, none, some (.aload_n 0, 54, 0, 0, 0, 0, 0), some (.iload_n 2, 55, 0, 0, 0, 0, 0), some (.invokevirtual 189, 58, 63, 2, 0, 0, 0), none, none, some (.invokevirtual 193, 61, 35, 2, 0, 0, 1), none, none, some (.iinc 2 1, 64, 1, 0, 0, 0, 0), none, none]
def T_Rd_readName_2 : List (Option GE) := [some (.goto (-27), 67, 37, 0, 0, 0, 0), none, none, some (.iload_n 1, 68, 0, 0, 0, 0, 0), some (.ifCond .eq 31, 71, 99, 0, 0, 0, 0), none, none, some (.aload_n 0, 72, 0, 0, 0, 0, 0), some (.getfield 27, 75, 6, 4, 1, 1, 0), none, none, some (.getfield 196, 78, 8, 3, 1, 1, 0), none, none, some (.aload_n 0, 79, 0, 0, 0, 0, 0), some (.getfield 27, 82, 6, 4, 1, 1, 0), none, none, some (.getfield 200, 85, 8, 2, 1, 1, 0), none, none, some (.invokevirtual 203, 88, 36, 2, 0, 0, 0), none, none, some (.ifCond .eq 11, 91, 99, 0, 0, 0, 0), none, none, some (.aload_n 0, 92, 0, 0, 0, 0, 0), some (.iconst 4, 93, 4, 0, 0, 0, 0), some (.invokevirtual 120, 96, 58, 2, 0, 0, 0), none, none]
def T_Rd_readName_3 : List (Option GE) := [some (.ifCond .eq 7, 99, 103, 0, 0, 0, 0), none, none, some (.iconst 1, 100, 1, 0, 0, 0, 0), some (.goto 4, 103, 104, 0, 0, 0, 0), none, none, some (.iconst 0, 104, 0, 0, 0, 0, 0), some (.ireturn, 105, 1, 0, 0, 0, 0)]
def T_Rd_readName : List (List (Option GE)) := [T_Rd_readName_0, T_Rd_readName_1, T_Rd_readName_2, T_Rd_readName_3]
def T_Rd_readPiece_0 : List (Option GE) := [some (.aload_n 0, 1, 0, 0, 0, 0, 0), some (.invokevirtual 76, 4, 59, 1, 0, 0, 1), none, none, some (.aload_n 0, 5, 0, 0, 0, 0, 0), some (.invokevirtual 207, 8, 55, 1, 0, 0, 0), none, none, some (.istore_n 1, 9, 0, 0, 0, 0, 0), some (.iload_n 1, 10, 0, 0, 0, 0, 0), some (.iconst (-1), 11, 1, 1, 0, 0, 0), some (.if_icmp .ne 9, 14, 20, 0, 0, 0, 0), none, none, some (.aload_n 0, 15, 0, 0, 0, 0, 0), some (.iconst 1, 16, 1, 0, 0, 0, 0), some (.invokevirtual 120, 19, 58, 2, 0, 0, 0), none, none, some (.ireturn, 20, 1, 0, 0, 0, 0), some (.aload_n 0, 21, 0, 0, 0, 0, 0), some (.iconst 0, 22, 0, 0, 0, 0, 0), some (.iconst 3, 23, 3, 0, 0, 0, 0), some (.invokevirtual 131, 26, 56, 3, 0, 0, 0), none, none, some (.istore_n 2, 27, 0, 0, 0, 0, 0), some (.iload_n 2, 28, 0, 0, 0, 0, 0), some (.iconst (-1), 29, 1, 1, 0, 0, 0), some (.if_icmp .ne 5, 32, 34, 0, 0, 0, 0), none, none]
def T_Rd_readPiece_1 : List (Option GE) := [some (.iconst 0, 33, 0, 0, 0, 0, 0), some (.ireturn, 34, 1, 0, 0, 0, 0), some (.aload_n 0, 35, 0, 0, 0, 0, 0), some (.iconst 0, 36, 0, 0, 0, 0, 0), some (.aload_n 0, 37, 0, 0, 0, 0, 0), some (.getfield 27, 40, 6, 4, 1, 1, 0), none, none, some (.getfield 141, 43, 8, 0, 1, 1, 0), none, none, some (.getfield 144, 46, 9, 0, 0, 0, 0), none, none, some (.iconst 1, 47, 1, 0, 0, 0, 0), some (.isub, 48, 0, 0, 0, 0, 0), some (.invokevirtual 131, 51, 56, 3, 0, 0, 0), none, none, some (.istore_n 3, 52, 0, 0, 0, 0, 0), some (.iload_n 3, 53, 0, 0, 0, 0, 0), some (.iconst (-1), 54, 1, 1, 0, 0, 0), some (.if_icmp .ne 5, 57, 59, 0, 0, 0, 0), none, none, some (.iconst 0, 58, 0, 0, 0, 0, 0), some (.ireturn, 59, 1, 0, 0, 0, 0), some (.aload_n 0, 60, 0, 0, 0, 0, 0), some (.iconst 0, 61, 0, 0, 0, 0, 0), some (.aload_n 0, 62, 0, 0, 0, 0, 0), some (.getfield 27, 65, 6, 4, 1, 1, 0), none]
def T_Rd_readPiece_2 : List (Option GE) := [none, some (.getfield 141, 68, 8, 0, 1, 1, 0), none, none, some (.getfield 149, 71, 9, 1, 0, 0, 0), none, none, some (.iconst 1, 72, 1, 0, 0, 0, 0), some (.isub, 73, 0, 0, 0, 0, 0), some (.invokevirtual 131, 76, 56, 3, 0, 0, 0), none, none, some (.istore 4, 78, 0, 0, 0, 0, 0), none, some (.iload 4, 80, 0, 0, 0, 0, 0), none, some (.iconst (-1), 81, 1, 1, 0, 0, 0), some (.if_icmp .ne 5, 84, 86, 0, 0, 0, 0), none, none, some (.iconst 0, 85, 0, 0, 0, 0, 0), some (.ireturn, 86, 1, 0, 0, 0, 0), some (.aload_n 0, 87, 0, 0, 0, 0, 0), some (.getfield 34, 90, 6, 5, 1, 1, 0), none, none, some (.iload_n 1, 91, 0, 0, 0, 0, 0), some (.iload_n 2, 92, 0, 0, 0, 0, 0), some (.invokevirtual 210, 95, 9, 3, 0, 0, 1), none, none, some (.aload_n 0, 96, 0, 0, 0, 0, 0)]
def T_Rd_readPiece_3 : List (Option GE) := [some (.getfield 34, 99, 6, 5, 1, 1, 0), none, none, some (.iload_n 3, 100, 0, 0, 0, 0, 0), some (.iload 4, 102, 0, 0, 0, 0, 0), none, some (.invokevirtual 213, 105, 10, 3, 0, 0, 1), none, none, some (.aload_n 0, 106, 0, 0, 0, 0, 0), some (.getfield 27, 109, 6, 4, 1, 1, 0), none, none, some (.aload_n 0, 110, 0, 0, 0, 0, 0), some (.getfield 34, 113, 6, 5, 1, 1, 0), none, none, some (.invokevirtual 216, 116, 76, 2, 0, 0, 0), none, none, some (.ifCond .ne 10, 119, 126, 0, 0, 0, 0), none, none, some (.aload_n 0, 120, 0, 0, 0, 0, 0), some (.bipush 6, 122, 6, 0, 0, 0, 0), none, some (.invokevirtual 120, 125, 58, 2, 0, 0, 0), none, none, some (.ireturn, 126, 1, 0, 0, 0, 0), some (.aload_n 0, 127, 0, 0, 0, 0, 0), some (.getfield 27, 130, 6, 4, 1, 1, 0)]
def T_Rd_readPiece_4 : List (Option GE) := [none, none, some (.aload_n 0, 131, 0, 0, 0, 0, 0), some (.getfield 34, 134, 6, 5, 1, 1, 0), none, none, some (.invokevirtual 219, 137, 77, 2, 0, 0, 0), none, none, some (.pop, 138, 0, 0, 0, 0, 0), some (.iconst 1, 139, 1, 0, 0, 0, 0), some (.ireturn, 140, 1, 0, 0, 0, 0)]
def T_Rd_readPiece : List (List (Option GE)) := [T_Rd_readPiece_0, T_Rd_readPiece_1, T_Rd_readPiece_2, T_Rd_readPiece_3, T_Rd_readPiece_4]
def T_Rd_readStrap_0 : List (Option GE) := [some (.aload_n 0, 1, 0, 0, 0, 0, 0), some (.invokevirtual 159, 4, 54, 1, 0, 0, 0), none, none, some (.ifCond .ne 5, 7, 9, 0, 0, 0, 0), none, none, some (.iconst 0, 8, 0, 0, 0, 0, 0), some (.ireturn, 9, 1, 0, 0, 0, 0), some (.aload_n 0, 10, 0, 0, 0, 0, 0), some (.getfield 27, 13, 6, 4, 1, 1, 0), none, none, some (.aload_n 0, 14, 0, 0, 0, 0, 0), some (.getfield 54, 17, 6, 11, 0, 0, 0), none, none, some (.aload_n 0, 18, 0, 0, 0, 0, 0), some (.getfield 57, 21, 6, 12, 0, 0, 0), none, none, some (.aload_n 0, 22, 0, 0, 0, 0, 0), some (.getfield 60, 25, 6, 13, 0, 0, 0), none, none, some (.invokevirtual 223, 28, 78, 4, 0, 0, 0), none, none, some (.ifCond .ne 10, 31, 38, 0, 0, 0, 0), none, none, some (.aload_n 0, 32, 0, 0, 0, 0, 0)]
def T_Rd_readStrap_1 : List (Option GE) := [some (.bipush 6, 34, 6, 0, 0, 0, 0), none, some (.invokevirtual 120, 37, 58, 2, 0, 0, 0), none, none, some (.ireturn, 38, 1, 0, 0, 0, 0), some (.aload_n 0, 39, 0, 0, 0, 0, 0), some (.getfield 27, 42, 6, 4, 1, 1, 0), none, none, some (.aload_n 0, 43, 0, 0, 0, 0, 0), some (.getfield 54, 46, 6, 11, 0, 0, 0), none, none, some (.aload_n 0, 47, 0, 0, 0, 0, 0), some (.getfield 57, 50, 6, 12, 0, 0, 0), none, none, some (.aload_n 0, 51, 0, 0, 0, 0, 0), some (.getfield 60, 54, 6, 13, 0, 0, 0), none, none, some (.invokevirtual 226, 57, 79, 4, 0, 0, 0), none, none, some (.pop, 58, 0, 0, 0, 0, 0), some (.iconst 1, 59, 1, 0, 0, 0, 0), some (.ireturn, 60, 1, 0, 0, 0, 0)]
def T_Rd_readStrap : List (List (Option GE)) := [T_Rd_readStrap_0, T_Rd_readStrap_1]
def T_Rd_readEdge_0 : List (Option GE) := [some (.aload_n 0, 1, 0, 0, 0, 0, 0), some (.aload_n 0, 2, 0, 0, 0, 0, 0), some (.iconst 0, 3, 0, 0, 0, 0, 0), some (.aload_n 0, 4, 0, 0, 0, 0, 0), some (.getfield 27, 7, 6, 4, 1, 1, 0), none, none, some (.getfield 141, 10, 8, 0, 1, 1, 0), none, none, some (.getfield 144, 13, 9, 0, 0, 0, 0), none, none, some (.iconst 1, 14, 1, 0, 0, 0, 0), some (.isub, 15, 0, 0, 0, 0, 0), some (.invokevirtual 131, 18, 56, 3, 0, 0, 0), none, none, some (.putfield 54, 21, 6, 11, 0, 0, 0), none, none, some (.aload_n 0, 22, 0, 0, 0, 0, 0), some (.getfield 54, 25, 6, 11, 0, 0, 0), none, none, some (.iconst (-1), 26, 1, 1, 0, 0, 0), some (.if_icmp .ne 5, 29, 31, 0, 0, 0, 0), none, none, some (.iconst 0, 30, 0, 0, 0, 0, 0), some (.ireturn, 31, 1, 0, 0, 0, 0), some (.aload_n 0, 32, 0, 0, 0, 0, 0)]
def T_Rd_readEdge_1 : List (Option GE) := [some (.aload_n 0, 33, 0, 0, 0, 0, 0), some (.iconst 0, 34, 0, 0, 0, 0, 0), some (.aload_n 0, 35, 0, 0, 0, 0, 0), some (.getfield 27, 38, 6, 4, 1, 1, 0), none, none, some (.getfield 141, 41, 8, 0, 1, 1, 0), none, none, some (.getfield 149, 44, 9, 1, 0, 0, 0), none, none, some (.iconst 1, 45, 1, 0, 0, 0, 0), some (.isub, 46, 0, 0, 0, 0, 0), some (.invokevirtual 131, 49, 56, 3, 0, 0, 0), none, none, some (.putfield 57, 52, 6, 12, 0, 0, 0), none, none, some (.aload_n 0, 53, 0, 0, 0, 0, 0), some (.getfield 57, 56, 6, 12, 0, 0, 0), none, none, some (.iconst (-1), 57, 1, 1, 0, 0, 0), some (.if_icmp .ne 5, 60, 62, 0, 0, 0, 0), none, none, some (.iconst 0, 61, 0, 0, 0, 0, 0), some (.ireturn, 62, 1, 0, 0, 0, 0), some (.aload_n 0, 63, 0, 0, 0, 0, 0), some (.invokevirtual 76, 66, 59, 1, 0, 0, 1)]
def T_Rd_readEdge_2 : List (Option GE) := [none, none, some (.aload_n 0, 67, 0, 0, 0, 0, 0), some (.ldc 230, 69, 100020, 0, 0, 0, 1), none, some (.invokevirtual 102, 72, 62, 2, 0, 0, 0), none, none, some (.ifCond .ne 18, 75, 90, 0, 0, 0, 0), none, none, some (.aload_n 0, 76, 0, 0, 0, 0, 0), some (.ldc 232, 78, 100021, 0, 0, 0, 1), none, some (.invokevirtual 102, 81, 62, 2, 0, 0, 0), none, none, some (.ifCond .ne 9, 84, 90, 0, 0, 0, 0), none, none, some (.aload_n 0, 85, 0, 0, 0, 0, 0), some (.iconst 1, 86, 1, 0, 0, 0, 0), some (.invokevirtual 120, 89, 58, 2, 0, 0, 0), none, none, some (.ireturn, 90, 1, 0, 0, 0, 0), some (.aload_n 0, 91, 0, 0, 0, 0, 0), some (.aload_n 0, 92, 0, 0, 0, 0, 0), some (.ldc 230, 94, 100020, 0, 0, 0, 1), none, some (.invokevirtual 102, 97, 62, 2, 0, 0, 0), none]
def T_Rd_readEdge_3 : List (Option GE) := [none, some (.ifCond .eq 7, 100, 104, 0, 0, 0, 0), none, none, some (.iconst 0, 101, 0, 0, 0, 0, 0), some (.goto 4, 104, 105, 0, 0, 0, 0), none, none, some (.iconst 1, 105, 1, 0, 0, 0, 0), some (.putfield 60, 108, 6, 13, 0, 0, 0), none, none, some (.aload_n 0, 109, 0, 0, 0, 0, 0), some (.getfield 27, 112, 6, 4, 1, 1, 0), none, none, some (.getfield 141, 115, 8, 0, 1, 1, 0), none, none, some (.aload_n 0, 116, 0, 0, 0, 0, 0), some (.getfield 54, 119, 6, 11, 0, 0, 0), none, none, some (.aload_n 0, 120, 0, 0, 0, 0, 0), some (.getfield 57, 123, 6, 12, 0, 0, 0), none, none, some (.aload_n 0, 124, 0, 0, 0, 0, 0), some (.getfield 60, 127, 6, 13, 0, 0, 0), none, none, some (.invokevirtual 234, 130, 88, 4, 0, 0, 0)]
def T_Rd_readEdge_4 : List (Option GE) := [none, none, some (.ifCond .ne 11, 133, 141, 0, 0, 0, 0), none, none, some (.aload_n 0, 134, 0, 0, 0, 0, 0), some (.iconst 3, 135, 3, 0, 0, 0, 0), some (.invokevirtual 120, 138, 58, 2, 0, 0, 0), none, none, some (.ifCond .eq 7, 141, 145, 0, 0, 0, 0), none, none, some (.iconst 1, 142, 1, 0, 0, 0, 0), some (.goto 4, 145, 146, 0, 0, 0, 0), none, none, some (.iconst 0, 146, 0, 0, 0, 0, 0), some (.ireturn, 147, 1, 0, 0, 0, 0)]
def T_Rd_readEdge : List (List (Option GE)) := [T_Rd_readEdge_0, T_Rd_readEdge_1, T_Rd_readEdge_2, T_Rd_readEdge_3, T_Rd_readEdge_4]
def T_Rd_shapeOfToken_0 : List (Option GE) := [some (.aload_n 0, 1, 0, 0, 0, 0, 0), some (.ldc 237, 3, 100024, 0, 0, 0, 1), none, some (.invokevirtual 102, 6, 62, 2, 0, 0, 0), none, none, some (.ifCond .eq 5, 9, 11, 0, 0, 0, 0), none, none, some (.iconst 0, 10, 0, 0, 0, 0, 0), some (.ireturn, 11, 0, 0, 0, 0, 0), some (.aload_n 0, 12, 0, 0, 0, 0, 0), some (.ldc 239, 14, 100025, 0, 0, 0, 1), none, some (.invokevirtual 102, 17, 62, 2, 0, 0, 0), none, none, some (.ifCond .eq 5, 20, 22, 0, 0, 0, 0), none, none, some (.iconst 1, 21, 1, 0, 0, 0, 0), some (.ireturn, 22, 0, 0, 0, 0, 0), some (.aload_n 0, 23, 0, 0, 0, 0, 0), some (.ldc 241, 25, 100026, 0, 0, 0, 1), none, some (.invokevirtual 102, 28, 62, 2, 0, 0, 0), none, none, some (.ifCond .eq 5, 31, 33, 0, 0, 0, 0), none, none, some (.iconst 2, 32, 2, 0, 0, 0, 0)]
def T_Rd_shapeOfToken_1 : List (Option GE) := [some (.ireturn, 33, 0, 0, 0, 0, 0), some (.aload_n 0, 34, 0, 0, 0, 0, 0), some (.ldc 243, 36, 100027, 0, 0, 0, 1), none, some (.invokevirtual 102, 39, 62, 2, 0, 0, 0), none, none, some (.ifCond .eq 5, 42, 44, 0, 0, 0, 0), none, none, some (.iconst 3, 43, 3, 0, 0, 0, 0), some (.ireturn, 44, 0, 0, 0, 0, 0), some (.aload_n 0, 45, 0, 0, 0, 0, 0), some (.ldc 245, 47, 100028, 0, 0, 0, 1), none, some (.invokevirtual 102, 50, 62, 2, 0, 0, 0), none, none, some (.ifCond .eq 7, 53, 57, 0, 0, 0, 0), none, none, some (.iconst 4, 54, 4, 0, 0, 0, 0), some (.goto 4, 57, 58, 0, 0, 0, 0), none, none, some (.iconst (-1), 58, 1, 1, 0, 0, 0), some (.ireturn, 59, 0, 0, 0, 0, 0)]
def T_Rd_shapeOfToken : List (List (Option GE)) := [T_Rd_shapeOfToken_0, T_Rd_shapeOfToken_1]
def T_Rd_expectNumber_0 : List (Option GE) := [some (.aload_n 0, 1, 0, 0, 0, 0, 0), some (.invokevirtual 76, 4, 59, 1, 0, 0, 1), none, none, some (.aload_n 0, 5, 0, 0, 0, 0, 0), some (.getfield 45, 8, 6, 8, 0, 0, 0), none, none, some (.iconst 2, 9, 2, 0, 0, 0, 0), some (.if_icmp .eq 11, 12, 20, 0, 0, 0, 0), none, none, some (.aload_n 0, 13, 0, 0, 0, 0, 0), some (.iconst 1, 14, 1, 0, 0, 0, 0), some (.invokevirtual 120, 17, 58, 2, 0, 0, 0), none, none, some (.pop, 18, 0, 0, 0, 0, 0), some (.iconst (-1), 19, 1, 1, 0, 0, 0), some (.ireturn, 20, 0, 0, 0, 0, 0), some (.aload_n 0, 21, 0, 0, 0, 0, 0), some (.getfield 51, 24, 6, 10, 0, 0, 0), none, none, some (.iload_n 1, 25, 0, 0, 0, 0, 0), some (.if_icmp .lt 11, 28, 36, 0, 0, 0, 0), none, none, some (.aload_n 0, 29, 0, 0, 0, 0, 0), some (.getfield 51, 32, 6, 10, 0, 0, 0), none, none]
def T_Rd_expectNumber_1 : List (Option GE) := [some (.iload_n 2, 33, 0, 0, 0, 0, 0), some (.if_icmp .le 11, 36, 44, 0, 0, 0, 0), none, none, some (.aload_n 0, 37, 0, 0, 0, 0, 0), some (.iconst 2, 38, 2, 0, 0, 0, 0), some (.invokevirtual 120, 41, 58, 2, 0, 0, 0), none, none, some (.pop, 42, 0, 0, 0, 0, 0), some (.iconst (-1), 43, 1, 1, 0, 0, 0), some (.ireturn, 44, 0, 0, 0, 0, 0), some (.aload_n 0, 45, 0, 0, 0, 0, 0), some (.getfield 51, 48, 6, 10, 0, 0, 0), none, none, some (.ireturn, 49, 0, 0, 0, 0, 0)]
def T_Rd_expectNumber : List (List (Option GE)) := [T_Rd_expectNumber_0, T_Rd_expectNumber_1]
def T_Rd_endStatement_0 : List (Option GE) := [some (.aload_n 0, 1, 0, 0, 0, 0, 0), some (.invokevirtual 76, 4, 59, 1, 0, 0, 1), none, none, some (.aload_n 0, 5, 0, 0, 0, 0, 0), some (.getfield 45, 8, 6, 8, 0, 0, 0), none, none, some (.iconst 3, 9, 3, 0, 0, 0, 0), some (.if_icmp .eq 9, 12, 18, 0, 0, 0, 0), none, none, some (.aload_n 0, 13, 0, 0, 0, 0, 0), some (.iconst 1, 14, 1, 0, 0, 0, 0), some (.invokevirtual 120, 17, 58, 2, 0, 0, 0), none, none, some (.ireturn, 18, 1, 0, 0, 0, 0), some (.aload_n 0, 19, 0, 0, 0, 0, 0), some (.invokevirtual 76, 22, 59, 1, 0, 0, 1), none, none, some (.iconst 1, 23, 1, 0, 0, 0, 0), some (.ireturn, 24, 1, 0, 0, 0, 0)]
def T_Rd_endStatement : List (List (Option GE)) := [T_Rd_endStatement_0]
def T_Rd_fail_0 : List (Option GE) := [some (.aload_n 0, 1, 0, 0, 0, 0, 0), some (.iload_n 1, 2, 0, 0, 0, 0, 0), some (.putfield 15, 5, 6, 1, 0, 0, 0), none, none, some (.aload_n 0, 6, 0, 0, 0, 0, 0), some (.aload_n 0, 7, 0, 0, 0, 0, 0), some (.getfield 48, 10, 6, 9, 0, 0, 0), none, none, some (.putfield 18, 13, 6, 2, 0, 0, 0), none, none, some (.iconst 0, 14, 0, 0, 0, 0, 0), some (.ireturn, 15, 1, 0, 0, 0, 0)]
def T_Rd_fail : List (List (Option GE)) := [T_Rd_fail_0]
def T_Rd_nextToken_0 : List (Option GE) := [some (.aload_n 0, 1, 0, 0, 0, 0, 0), some (.aload_n 0, 2, 0, 0, 0, 0, 0), some (.bipush 32, 4, 32, 0, 0, 0, 0), none, some (.bipush 32, 6, 32, 0, 0, 0, 0), none, some (.invokevirtual 247, 9, 60, 3, 0, 0, 0), none, none, some (.putfield 42, 12, 6, 7, 0, 0, 0), none, none, some (.aload_n 0, 13, 0, 0, 0, 0, 0), some (.aload_n 0, 14, 0, 0, 0, 0, 0), some (.getfield 42, 17, 6, 7, 0, 0, 0), none, none, some (.putfield 48, 20, 6, 9, 0, 0, 0), none, none, some (.aload_n 0, 21, 0, 0, 0, 0, 0), some (.aload_n 0, 22, 0, 0, 0, 0, 0), some (.getfield 42, 25, 6, 7, 0, 0, 0), none, none, some (.invokevirtual 189, 28, 63, 2, 0, 0, 0), none, none, some (.istore_n 1, 29, 0, 0, 0, 0, 0), some (.iload_n 1, 30, 0, 0, 0, 0, 0), some (.iconst (-1), 31, 1, 1, 0, 0, 0), some (.if_icmp .ne 11, 34, 42, 0, 0, 0, 0)]
def T_Rd_nextToken_1 : List (Option GE) := [none, none, some (.aload_n 0, 35, 0, 0, 0, 0, 0), some (.iconst 0, 36, 0, 0, 0, 0, 0), some (.putfield 45, 39, 6, 8, 0, 0, 0), none, none, some (.goto 100, 42, 139, 0, 0, 0, 0), none, none, some (.iload_n 1, 43, 0, 0, 0, 0, 0), some (.bipush 97, 45, 97, 0, 0, 0, 0), none, some (.if_icmp .lt 29, 48, 74, 0, 0, 0, 0), none, none, some (.iload_n 1, 49, 0, 0, 0, 0, 0), some (.bipush 122, 51, 122, 0, 0, 0, 0), none, some (.if_icmp .gt 23, 54, 74, 0, 0, 0, 0), none, none, some (.aload_n 0, 55, 0, 0, 0, 0, 0), some (.iconst 1, 56, 1, 0, 0, 0, 0), some (.putfield 45, 59, 6, 8, 0, 0, 0), none, none, some (.aload_n 0, 60, 0, 0, 0, 0, 0), some (.aload_n 0, 61, 0, 0, 0, 0, 0), some (.bipush 97, 63, 97, 0, 0, 0, 0), none, some (.bipush 122, 65, 122, 0, 0, 0, 0)]
def T_Rd_nextToken_2 : List (Option GE) := [none, some (.invokevirtual 247, 68, 60, 3, 0, 0, 0), none, none, some (.putfield 42, 71, 6, 7, 0, 0, 0), none, none, some (.goto 68, 74, 139, 0, 0, 0, 0), none, none, some (.iload_n 1, 75, 0, 0, 0, 0, 0), some (.bipush 48, 77, 48, 0, 0, 0, 0), none, some (.if_icmp .lt 37, 80, 114, 0, 0, 0, 0), none, none, some (.iload_n 1, 81, 0, 0, 0, 0, 0), some (.bipush 57, 83, 57, 0, 0, 0, 0), none, some (.if_icmp .gt 31, 86, 114, 0, 0, 0, 0), none, none, some (.aload_n 0, 87, 0, 0, 0, 0, 0), some (.iconst 2, 88, 2, 0, 0, 0, 0), some (.putfield 45, 91, 6, 8, 0, 0, 0), none, none, some (.aload_n 0, 92, 0, 0, 0, 0, 0), some (.aload_n 0, 93, 0, 0, 0, 0, 0), some (.bipush 48, 95, 48, 0, 0, 0, 0), none, some (.bipush 57, 97, 57, 0, 0, 0, 0)]
def T_Rd_nextToken_3 : List (Option GE) := [none, some (.invokevirtual 247, 100, 60, 3, 0, 0, 0), none, none, some (.putfield 42, 103, 6, 7, 0, 0, 0), none, none, some (.aload_n 0, 104, 0, 0, 0, 0, 0), some (.aload_n 0, 105, 0, 0, 0, 0, 0), some (.invokevirtual 250, 108, 61, 1, 0, 0, 0), none, none, some (.putfield 51, 111, 6, 10, 0, 0, 0), none, none, some (.goto 28, 114, 139, 0, 0, 0, 0), none, none, some (.aload_n 0, 115, 0, 0, 0, 0, 0), some (.iload_n 1, 116, 0, 0, 0, 0, 0), some (.bipush 59, 118, 59, 0, 0, 0, 0), none, some (.if_icmp .ne 7, 121, 125, 0, 0, 0, 0), none, none, some (.iconst 3, 122, 3, 0, 0, 0, 0), some (.goto 4, 125, 126, 0, 0, 0, 0), none, none, some (.iconst 4, 126, 4, 0, 0, 0, 0), some (.putfield 45, 129, 6, 8, 0, 0, 0), none]
def T_Rd_nextToken_4 : List (Option GE) := [none, some (.aload_n 0, 130, 0, 0, 0, 0, 0), some (.dup, 131, 0, 0, 0, 0, 0), some (.getfield 42, 134, 6, 7, 0, 0, 0), none, none, some (.iconst 1, 135, 1, 0, 0, 0, 0), some (.iadd, 136, 0, 0, 0, 0, 0), some (.putfield 42, 139, 6, 7, 0, 0, 0), none, none, some (.return_, 140, 0, 0, 0, 0, 0)]
def T_Rd_nextToken : List (List (Option GE)) := [T_Rd_nextToken_0, T_Rd_nextToken_1, T_Rd_nextToken_2, T_Rd_nextToken_3, T_Rd_nextToken_4]
def T_Rd_endOfRun_0 : List (Option GE) := [some (.aload_n 0, 1, 0, 0, 0, 0, 0), some (.getfield 42, 4, 6, 7, 0, 0, 0), none, none, some (.istore_n 3, 5, 0, 0, 0, 0, 0), some (.iload_n 3, 6, 0, 0, 0, 0, 0), some (.aload_n 0, 7, 0, 0, 0, 0, 0), some (.getfield 9, 10, 6, 0, 0, 0, 0), none, none, some (.if_icmp .ge 36, 13, 46, 0, 0, 0, 0), none, none, some (.iload_n 3, 14, 0, 0, 0, 0, 0), some (.sipush 600, 17, 600, 0, 0, 0, 0), none, none, some (.if_icmp .ge 29, 20, 46, 0, 0, 0, 0), none, none, some (.aload_n 0, 21, 0, 0, 0, 0, 0), some (.getfield 38, 24, 6, 6, 1, 1, 0), none, none, some (.iload_n 3, 25, 0, 0, 0, 0, 0), some (.iaload, 26, 0, 0, 0, 0, 0), some (.iload_n 1, 27, 0, 0, 0, 0, 0), some (.if_icmp .lt 19, 30, 46, 0, 0, 0, 0), none, none, some (.aload_n 0, 31, 0, 0, 0, 0, 0), some (.getfield 38, 34, 6, 6, 1, 1, 0)]
def T_Rd_endOfRun_1 : List (Option GE) := [none, none, some (.iload_n 3, 35, 0, 0, 0, 0, 0), some (.iaload, 36, 0, 0, 0, 0, 0), some (.iload_n 2, 37, 0, 0, 0, 0, 0), some (.if_icmp .gt 9, 40, 46, 0, 0, 0, 0), none, none, some (.iinc 3 1, 43, 1, 0, 0, 0, 0), none, none, some (.goto (-38), 46, 5, 0, 0, 0, 0), none, none, some (.iload_n 3, 47, 0, 0, 0, 0, 0), some (.ireturn, 48, 0, 0, 0, 0, 0)]
def T_Rd_endOfRun : List (List (Option GE)) := [T_Rd_endOfRun_0, T_Rd_endOfRun_1]
def T_Rd_valueOfToken_0 : List (Option GE) := [some (.iconst 0, 1, 0, 0, 0, 0, 0), some (.istore_n 1, 2, 0, 0, 0, 0, 0), some (.aload_n 0, 3, 0, 0, 0, 0, 0), some (.getfield 48, 6, 6, 9, 0, 0, 0), none, none, some (.istore_n 2, 7, 0, 0, 0, 0, 0), some (.iload_n 2, 8, 0, 0, 0, 0, 0), some (.aload_n 0, 9, 0, 0, 0, 0, 0), some (.getfield 42, 12, 6, 7, 0, 0, 0), none, none, some (.if_icmp .ge 37, 15, 49, 0, 0, 0, 0), none, none, some (.iload_n 2, 16, 0, 0, 0, 0, 0), some (.sipush 600, 19, 600, 0, 0, 0, 0), none, none, some (.if_icmp .ge 30, 22, 49, 0, 0, 0, 0), none, none, some (.iload_n 1, 23, 0, 0, 0, 0, 0), some (.bipush 10, 25, 10, 0, 0, 0, 0), none, some (.imul, 26, 0, 0, 0, 0, 0), some (.aload_n 0, 27, 0, 0, 0, 0, 0), some (.getfield 38, 30, 6, 6, 1, 1, 0), none, none, some (.iload_n 2, 31, 0, 0, 0, 0, 0), some (.iaload, 32, 0, 0, 0, 0, 0)]
def T_Rd_valueOfToken_1 : List (Option GE) := [some (.iadd, 33, 0, 0, 0, 0, 0), some (.bipush 48, 35, 48, 0, 0, 0, 0), none, some (.isub, 36, 0, 0, 0, 0, 0), some (.sipush 1000, 39, 1000, 0, 0, 0, 0), none, none, some (.invokestatic 253, 42, 0, 0, 0, 0, 20), none, none, some (.istore_n 1, 43, 0, 0, 0, 0, 0), some (.iinc 2 1, 46, 1, 0, 0, 0, 0), none, none, some (.goto (-39), 49, 7, 0, 0, 0, 0), none, none, some (.iload_n 1, 50, 0, 0, 0, 0, 0), some (.ireturn, 51, 0, 0, 0, 0, 0)]
def T_Rd_valueOfToken : List (List (Option GE)) := [T_Rd_valueOfToken_0, T_Rd_valueOfToken_1]
def T_Rd_wordIs_0 : List (Option GE) := [some (.aload_n 0, 1, 0, 0, 0, 0, 0), some (.getfield 45, 4, 6, 8, 0, 0, 0), none, none, some (.iconst 1, 5, 1, 0, 0, 0, 0), some (.if_icmp .ne 19, 8, 24, 0, 0, 0, 0), none, none, some (.aload_n 0, 9, 0, 0, 0, 0, 0), some (.getfield 42, 12, 6, 7, 0, 0, 0), none, none, some (.aload_n 0, 13, 0, 0, 0, 0, 0), some (.getfield 48, 16, 6, 9, 0, 0, 0), none, none, some (.isub, 17, 0, 0, 0, 0, 0), some (.aload_n 1, 18, 0, 0, 0, 0, 0), some (.invokevirtual 63, 21, 0, 0, 0, 0, 23), none, none, some (.if_icmp .eq 5, 24, 26, 0, 0, 0, 0), none, none, some (.iconst 0, 25, 0, 0, 0, 0, 0), some (.ireturn, 26, 1, 0, 0, 0, 0), some (.iconst 0, 27, 0, 0, 0, 0, 0), some (.istore_n 2, 28, 0, 0, 0, 0, 0), some (.iload_n 2, 29, 0, 0, 0, 0, 0), some (.aload_n 1, 30, 0, 0, 0, 0, 0), some (.invokevirtual 63, 33, 0, 0, 0, 0, 23), none]
def T_Rd_wordIs_1 : List (Option GE) := [none, some (.if_icmp .ge 29, 36, 62, 0, 0, 0, 0), none, none, some (.aload_n 0, 37, 0, 0, 0, 0, 0), some (.aload_n 0, 38, 0, 0, 0, 0, 0), some (.getfield 48, 41, 6, 9, 0, 0, 0), none, none, some (.iload_n 2, 42, 0, 0, 0, 0, 0), some (.iadd, 43, 0, 0, 0, 0, 0), some (.invokevirtual 189, 46, 63, 2, 0, 0, 0), none, none, some (.aload_n 1, 47, 0, 0, 0, 0, 0), some (.iload_n 2, 48, 0, 0, 0, 0, 0), some (.invokevirtual 68, 51, 0, 0, 0, 0, 24), none, none, some (.if_icmp .eq 5, 54, 56, 0, 0, 0, 0), none, none, some (.iconst 0, 55, 0, 0, 0, 0, 0), some (.ireturn, 56, 1, 0, 0, 0, 0), some (.iinc 2 1, 59, 1, 0, 0, 0, 0), none, none, some (.goto (-31), 62, 28, 0, 0, 0, 0), none, none, some (.iconst 1, 63, 1, 0, 0, 0, 0), some (.ireturn, 64, 1, 0, 0, 0, 0)]
def T_Rd_wordIs : List (List (Option GE)) := [T_Rd_wordIs_0, T_Rd_wordIs_1]
def T_Rd_byteAt_0 : List (Option GE) := [some (.iload_n 1, 1, 0, 0, 0, 0, 0), some (.ifCond .lt 27, 4, 28, 0, 0, 0, 0), none, none, some (.iload_n 1, 5, 0, 0, 0, 0, 0), some (.aload_n 0, 6, 0, 0, 0, 0, 0), some (.getfield 9, 9, 6, 0, 0, 0, 0), none, none, some (.if_icmp .ge 19, 12, 28, 0, 0, 0, 0), none, none, some (.iload_n 1, 13, 0, 0, 0, 0, 0), some (.sipush 600, 16, 600, 0, 0, 0, 0), none, none, some (.if_icmp .ge 12, 19, 28, 0, 0, 0, 0), none, none, some (.aload_n 0, 20, 0, 0, 0, 0, 0), some (.getfield 38, 23, 6, 6, 1, 1, 0), none, none, some (.iload_n 1, 24, 0, 0, 0, 0, 0), some (.iaload, 25, 0, 0, 0, 0, 0), some (.goto 4, 28, 29, 0, 0, 0, 0), none, none, some (.iconst (-1), 29, 1, 1, 0, 0, 0), some (.ireturn, 30, 0, 0, 0, 0, 0)]
def T_Rd_byteAt : List (List (Option GE)) := [T_Rd_byteAt_0]
def T_Rd_clear_0 : List (Option GE) := [some (.aload_n 0, 1, 0, 0, 0, 0, 0), some (.iconst 0, 2, 0, 0, 0, 0, 0), some (.putfield 9, 5, 6, 0, 0, 0, 0), none, none, some (.return_, 6, 0, 0, 0, 0, 0)]
def T_Rd_clear : List (List (Option GE)) := [T_Rd_clear_0]
def T_Rg_init_0 : List (Option GE) := [some (.aload_n 0, 1, 0, 0, 0, 0, 0), some (.invokespecial 3, 4, 0, 0, 0, 0, 26), none, none, some (.aload_n 0, 5, 0, 0, 0, 0, 0), some (.iconst 0, 6, 0, 0, 0, 0, 0), some (.putfield 9, 9, 7, 0, 0, 0, 0), none, none, some (.aload_n 0, 10, 0, 0, 0, 0, 0), some (.bipush 64, 12, 64, 0, 0, 0, 0), none, some (.newarray .int, 14, 0, 0, 0, 0, 0), none, some (.putfield 15, 17, 7, 1, 1, 1, 0), none, none, some (.aload_n 0, 18, 0, 0, 0, 0, 0), some (.bipush 64, 20, 64, 0, 0, 0, 0), none, some (.newarray .int, 22, 0, 0, 0, 0, 0), none, some (.putfield 19, 25, 7, 2, 1, 1, 0), none, none, some (.aload_n 0, 26, 0, 0, 0, 0, 0), some (.bipush 64, 28, 64, 0, 0, 0, 0), none, some (.newarray .int, 30, 0, 0, 0, 0, 0), none, some (.putfield 22, 33, 7, 3, 1, 1, 0), none]
def T_Rg_init_1 : List (Option GE) := [none, some (.aload_n 0, 34, 0, 0, 0, 0, 0), some (.iconst 0, 35, 0, 0, 0, 0, 0), some (.putfield 25, 38, 7, 4, 0, 0, 0), none, none, some (.return_, 39, 0, 0, 0, 0, 0)]
def T_Rg_init : List (List (Option GE)) := [T_Rg_init_0, T_Rg_init_1]
def T_Rg_survey_0 : List (Option GE) := [some (.aload_n 0, 1, 0, 0, 0, 0, 0), some (.iconst 0, 2, 0, 0, 0, 0, 0), some (.putfield 9, 5, 7, 0, 0, 0, 0), none, none, some (.iconst 0, 6, 0, 0, 0, 0, 0), some (.istore_n 2, 7, 0, 0, 0, 0, 0), some (.iload_n 2, 8, 0, 0, 0, 0, 0), some (.bipush 64, 10, 64, 0, 0, 0, 0), none, some (.if_icmp .ge 23, 13, 33, 0, 0, 0, 0), none, none, some (.aload_n 0, 14, 0, 0, 0, 0, 0), some (.getfield 15, 17, 7, 1, 1, 1, 0), none, none, some (.iload_n 2, 18, 0, 0, 0, 0, 0), some (.iconst (-1), 19, 1, 1, 0, 0, 0), some (.iastore, 20, 0, 0, 0, 0, 0), some (.aload_n 0, 21, 0, 0, 0, 0, 0), some (.getfield 19, 24, 7, 2, 1, 1, 0), none, none, some (.iload_n 2, 25, 0, 0, 0, 0, 0), some (.iconst 0, 26, 0, 0, 0, 0, 0), some (.iastore, 27, 0, 0, 0, 0, 0), some (.iinc 2 1, 30, 1, 0, 0, 0, 0), none, none, some (.goto (-23), 33, 7, 0, 0, 0, 0), none]
def T_Rg_survey_1 : List (Option GE) := [none, some (.iconst 0, 34, 0, 0, 0, 0, 0), some (.istore_n 2, 35, 0, 0, 0, 0, 0), some (.iload_n 2, 36, 0, 0, 0, 0, 0), some (.aload_n 1, 37, 0, 0, 0, 0, 0), some (.getfield 28, 40, 9, 1, 0, 0, 0), none, none, some (.if_icmp .ge 32, 43, 72, 0, 0, 0, 0), none, none, some (.iconst 0, 44, 0, 0, 0, 0, 0), some (.istore_n 3, 45, 0, 0, 0, 0, 0), some (.iload_n 3, 46, 0, 0, 0, 0, 0), some (.aload_n 1, 47, 0, 0, 0, 0, 0), some (.getfield 33, 50, 9, 0, 0, 0, 0), none, none, some (.if_icmp .ge 16, 53, 66, 0, 0, 0, 0), none, none, some (.aload_n 0, 54, 0, 0, 0, 0, 0), some (.iload_n 3, 55, 0, 0, 0, 0, 0), some (.iload_n 2, 56, 0, 0, 0, 0, 0), some (.aload_n 1, 57, 0, 0, 0, 0, 0), some (.invokevirtual 36, 60, 69, 4, 0, 0, 1), none, none, some (.iinc 3 1, 63, 1, 0, 0, 0, 0), none, none, some (.goto (-18), 66, 45, 0, 0, 0, 0)]
def T_Rg_survey_2 : List (Option GE) := [none, none, some (.iinc 2 1, 69, 1, 0, 0, 0, 0), none, none, some (.goto (-34), 72, 35, 0, 0, 0, 0), none, none, some (.return_, 73, 0, 0, 0, 0, 0)]
def T_Rg_survey : List (List (Option GE)) := [T_Rg_survey_0, T_Rg_survey_1, T_Rg_survey_2]
def T_Rg_sizeOf_0 : List (Option GE) := [some (.iload_n 1, 1, 0, 0, 0, 0, 0), some (.ifCond .lt 20, 4, 21, 0, 0, 0, 0), none, none, some (.iload_n 1, 5, 0, 0, 0, 0, 0), some (.aload_n 0, 6, 0, 0, 0, 0, 0), some (.getfield 9, 9, 7, 0, 0, 0, 0), none, none, some (.if_icmp .ge 12, 12, 21, 0, 0, 0, 0), none, none, some (.aload_n 0, 13, 0, 0, 0, 0, 0), some (.getfield 19, 16, 7, 2, 1, 1, 0), none, none, some (.iload_n 1, 17, 0, 0, 0, 0, 0), some (.iaload, 18, 0, 0, 0, 0, 0), some (.goto 4, 21, 22, 0, 0, 0, 0), none, none, some (.iconst 0, 22, 0, 0, 0, 0, 0), some (.ireturn, 23, 0, 0, 0, 0, 0)]
def T_Rg_sizeOf : List (List (Option GE)) := [T_Rg_sizeOf_0]
def T_Rg_sizeAt_0 : List (Option GE) := [some (.iload_n 1, 1, 0, 0, 0, 0, 0), some (.ifCond .lt 19, 4, 20, 0, 0, 0, 0), none, none, some (.iload_n 1, 5, 0, 0, 0, 0, 0), some (.bipush 8, 7, 8, 0, 0, 0, 0), none, some (.if_icmp .ge 13, 10, 20, 0, 0, 0, 0), none, none, some (.iload_n 2, 11, 0, 0, 0, 0, 0), some (.ifCond .lt 9, 14, 20, 0, 0, 0, 0), none, none, some (.iload_n 2, 15, 0, 0, 0, 0, 0), some (.bipush 8, 17, 8, 0, 0, 0, 0), none, some (.if_icmp .lt 5, 20, 22, 0, 0, 0, 0), none, none, some (.iconst 0, 21, 0, 0, 0, 0, 0), some (.ireturn, 22, 0, 0, 0, 0, 0), some (.aload_n 0, 23, 0, 0, 0, 0, 0), some (.aload_n 0, 24, 0, 0, 0, 0, 0), some (.getfield 15, 27, 7, 1, 1, 1, 0), none, none, some (.iload_n 2, 28, 0, 0, 0, 0, 0), some (.bipush 8, 30, 8, 0, 0, 0, 0), none, some (.imul, 31, 0, 0, 0, 0, 0), some (.iload_n 1, 32, 0, 0, 0, 0, 0)]
def T_Rg_sizeAt_1 : List (Option GE) := [some (.iadd, 33, 0, 0, 0, 0, 0), some (.iaload, 34, 0, 0, 0, 0, 0), some (.invokevirtual 40, 37, 67, 2, 0, 0, 0), none, none, some (.ireturn, 38, 0, 0, 0, 0, 0)]
def T_Rg_sizeAt : List (List (Option GE)) := [T_Rg_sizeAt_0, T_Rg_sizeAt_1]
def T_Rg_spreadFrom_0 : List (Option GE) := [some (.aload_n 0, 1, 0, 0, 0, 0, 0), some (.iconst 0, 2, 0, 0, 0, 0, 0), some (.putfield 25, 5, 7, 4, 0, 0, 0), none, none, some (.aload_n 0, 6, 0, 0, 0, 0, 0), some (.iload_n 1, 7, 0, 0, 0, 0, 0), some (.iload_n 2, 8, 0, 0, 0, 0, 0), some (.aload_n 3, 9, 0, 0, 0, 0, 0), some (.invokevirtual 44, 12, 70, 4, 0, 0, 1), none, none, some (.iconst 0, 13, 0, 0, 0, 0, 0), some (.istore 4, 15, 0, 0, 0, 0, 0), none, some (.iload 4, 17, 0, 0, 0, 0, 0), none, some (.aload_n 0, 18, 0, 0, 0, 0, 0), some (.getfield 25, 21, 7, 4, 0, 0, 0), none, none, some (.if_icmp .ge 136, 24, 157, 0, 0, 0, 0), none, none, some (.iload 4, 26, 0, 0, 0, 0, 0), none, some (.bipush 64, 28, 64, 0, 0, 0, 0), none, some (.if_icmp .ge 129, 31, 157, 0, 0, 0, 0), none, none, some (.aload_n 0, 32, 0, 0, 0, 0, 0)]
def T_Rg_spreadFrom_1 : List (Option GE) := [some (.getfield 22, 35, 7, 3, 1, 1, 0), none, none, some (.iload 4, 37, 0, 0, 0, 0, 0), none, some (.iaload, 38, 0, 0, 0, 0, 0), some (.bipush 8, 40, 8, 0, 0, 0, 0), none, some (.irem, 41, 0, 0, 0, 0, 0), some (.istore 5, 43, 0, 0, 0, 0, 0), none, some (.aload_n 0, 44, 0, 0, 0, 0, 0), some (.getfield 22, 47, 7, 3, 1, 1, 0), none, none, some (.iload 4, 49, 0, 0, 0, 0, 0), none, some (.iaload, 50, 0, 0, 0, 0, 0), some (.bipush 8, 52, 8, 0, 0, 0, 0), none, some (.idiv, 53, 0, 0, 0, 0, 0), some (.istore 6, 55, 0, 0, 0, 0, 0), none, some (.aload_n 3, 56, 0, 0, 0, 0, 0), some (.iload 5, 58, 0, 0, 0, 0, 0), none, some (.iload 6, 60, 0, 0, 0, 0, 0), none, some (.iconst 0, 61, 0, 0, 0, 0, 0), some (.invokevirtual 47, 64, 91, 4, 0, 0, 0), none, none]
def T_Rg_spreadFrom_2 : List (Option GE) := [some (.ifCond .ne 14, 67, 78, 0, 0, 0, 0), none, none, some (.aload_n 0, 68, 0, 0, 0, 0, 0), some (.iload 5, 70, 0, 0, 0, 0, 0), none, some (.iconst 1, 71, 1, 0, 0, 0, 0), some (.iadd, 72, 0, 0, 0, 0, 0), some (.iload 6, 74, 0, 0, 0, 0, 0), none, some (.aload_n 3, 75, 0, 0, 0, 0, 0), some (.invokevirtual 44, 78, 70, 4, 0, 0, 1), none, none, some (.aload_n 3, 79, 0, 0, 0, 0, 0), some (.iload 5, 81, 0, 0, 0, 0, 0), none, some (.iload 6, 83, 0, 0, 0, 0, 0), none, some (.iconst 1, 84, 1, 0, 0, 0, 0), some (.invokevirtual 47, 87, 91, 4, 0, 0, 0), none, none, some (.ifCond .ne 14, 90, 101, 0, 0, 0, 0), none, none, some (.aload_n 0, 91, 0, 0, 0, 0, 0), some (.iload 5, 93, 0, 0, 0, 0, 0), none, some (.iload 6, 95, 0, 0, 0, 0, 0), none, some (.iconst 1, 96, 1, 0, 0, 0, 0)]
def T_Rg_spreadFrom_3 : List (Option GE) := [some (.iadd, 97, 0, 0, 0, 0, 0), some (.aload_n 3, 98, 0, 0, 0, 0, 0), some (.invokevirtual 44, 101, 70, 4, 0, 0, 1), none, none, some (.aload_n 3, 102, 0, 0, 0, 0, 0), some (.iload 5, 104, 0, 0, 0, 0, 0), none, some (.iconst 1, 105, 1, 0, 0, 0, 0), some (.isub, 106, 0, 0, 0, 0, 0), some (.iload 6, 108, 0, 0, 0, 0, 0), none, some (.iconst 0, 109, 0, 0, 0, 0, 0), some (.invokevirtual 47, 112, 91, 4, 0, 0, 0), none, none, some (.ifCond .ne 14, 115, 126, 0, 0, 0, 0), none, none, some (.aload_n 0, 116, 0, 0, 0, 0, 0), some (.iload 5, 118, 0, 0, 0, 0, 0), none, some (.iconst 1, 119, 1, 0, 0, 0, 0), some (.isub, 120, 0, 0, 0, 0, 0), some (.iload 6, 122, 0, 0, 0, 0, 0), none, some (.aload_n 3, 123, 0, 0, 0, 0, 0), some (.invokevirtual 44, 126, 70, 4, 0, 0, 1), none, none, some (.aload_n 3, 127, 0, 0, 0, 0, 0), some (.iload 5, 129, 0, 0, 0, 0, 0)]
def T_Rg_spreadFrom_4 : List (Option GE) := [none, some (.iload 6, 131, 0, 0, 0, 0, 0), none, some (.iconst 1, 132, 1, 0, 0, 0, 0), some (.isub, 133, 0, 0, 0, 0, 0), some (.iconst 1, 134, 1, 0, 0, 0, 0), some (.invokevirtual 47, 137, 91, 4, 0, 0, 0), none, none, some (.ifCond .ne 14, 140, 151, 0, 0, 0, 0), none, none, some (.aload_n 0, 141, 0, 0, 0, 0, 0), some (.iload 5, 143, 0, 0, 0, 0, 0), none, some (.iload 6, 145, 0, 0, 0, 0, 0), none, some (.iconst 1, 146, 1, 0, 0, 0, 0), some (.isub, 147, 0, 0, 0, 0, 0), some (.aload_n 3, 148, 0, 0, 0, 0, 0), some (.invokevirtual 44, 151, 70, 4, 0, 0, 1), none, none, some (.iinc 4 1, 154, 1, 0, 0, 0, 0), none, none, some (.goto (-139), 157, 15, 0, 0, 0, 0), none, none, some (.aload_n 0, 158, 0, 0, 0, 0, 0), some (.getfield 25, 161, 7, 4, 0, 0, 0), none]
def T_Rg_spreadFrom_5 : List (Option GE) := [none, some (.ifCond .le 35, 164, 196, 0, 0, 0, 0), none, none, some (.aload_n 0, 165, 0, 0, 0, 0, 0), some (.getfield 9, 168, 7, 0, 0, 0, 0), none, none, some (.bipush 64, 170, 64, 0, 0, 0, 0), none, some (.if_icmp .ge 26, 173, 196, 0, 0, 0, 0), none, none, some (.aload_n 0, 174, 0, 0, 0, 0, 0), some (.getfield 19, 177, 7, 2, 1, 1, 0), none, none, some (.aload_n 0, 178, 0, 0, 0, 0, 0), some (.getfield 9, 181, 7, 0, 0, 0, 0), none, none, some (.aload_n 0, 182, 0, 0, 0, 0, 0), some (.getfield 25, 185, 7, 4, 0, 0, 0), none, none, some (.iastore, 186, 0, 0, 0, 0, 0), some (.aload_n 0, 187, 0, 0, 0, 0, 0), some (.dup, 188, 0, 0, 0, 0, 0), some (.getfield 9, 191, 7, 0, 0, 0, 0), none, none, some (.iconst 1, 192, 1, 0, 0, 0, 0)]
def T_Rg_spreadFrom_6 : List (Option GE) := [some (.iadd, 193, 0, 0, 0, 0, 0), some (.putfield 9, 196, 7, 0, 0, 0, 0), none, none, some (.return_, 197, 0, 0, 0, 0, 0)]
def T_Rg_spreadFrom : List (List (Option GE)) := [T_Rg_spreadFrom_0, T_Rg_spreadFrom_1, T_Rg_spreadFrom_2, T_Rg_spreadFrom_3, T_Rg_spreadFrom_4, T_Rg_spreadFrom_5, T_Rg_spreadFrom_6]
def T_Rg_reach_0 : List (Option GE) := [some (.aload_n 3, 1, 0, 0, 0, 0, 0), some (.iload_n 1, 2, 0, 0, 0, 0, 0), some (.iload_n 2, 3, 0, 0, 0, 0, 0), some (.invokevirtual 51, 6, 89, 3, 0, 0, 0), none, none, some (.iconst (-1), 7, 1, 1, 0, 0, 0), some (.if_icmp .ne 12, 10, 19, 0, 0, 0, 0), none, none, some (.aload_n 0, 11, 0, 0, 0, 0, 0), some (.getfield 25, 14, 7, 4, 0, 0, 0), none, none, some (.bipush 64, 16, 64, 0, 0, 0, 0), none, some (.if_icmp .lt 4, 19, 20, 0, 0, 0, 0), none, none, some (.return_, 20, 0, 0, 0, 0, 0), some (.iload_n 2, 21, 0, 0, 0, 0, 0), some (.bipush 8, 23, 8, 0, 0, 0, 0), none, some (.imul, 24, 0, 0, 0, 0, 0), some (.iload_n 1, 25, 0, 0, 0, 0, 0), some (.iadd, 26, 0, 0, 0, 0, 0), some (.istore 4, 28, 0, 0, 0, 0, 0), none, some (.iload 4, 30, 0, 0, 0, 0, 0), none, some (.ifCond .lt 53, 33, 83, 0, 0, 0, 0), none]
def T_Rg_reach_1 : List (Option GE) := [none, some (.iload 4, 35, 0, 0, 0, 0, 0), none, some (.bipush 64, 37, 64, 0, 0, 0, 0), none, some (.if_icmp .ge 46, 40, 83, 0, 0, 0, 0), none, none, some (.aload_n 0, 41, 0, 0, 0, 0, 0), some (.getfield 15, 44, 7, 1, 1, 1, 0), none, none, some (.iload 4, 46, 0, 0, 0, 0, 0), none, some (.iaload, 47, 0, 0, 0, 0, 0), some (.iconst (-1), 48, 1, 1, 0, 0, 0), some (.if_icmp .ne 35, 51, 83, 0, 0, 0, 0), none, none, some (.aload_n 0, 52, 0, 0, 0, 0, 0), some (.getfield 15, 55, 7, 1, 1, 1, 0), none, none, some (.iload 4, 57, 0, 0, 0, 0, 0), none, some (.aload_n 0, 58, 0, 0, 0, 0, 0), some (.getfield 9, 61, 7, 0, 0, 0, 0), none, none, some (.iastore, 62, 0, 0, 0, 0, 0), some (.aload_n 0, 63, 0, 0, 0, 0, 0), some (.getfield 22, 66, 7, 3, 1, 1, 0)]
def T_Rg_reach_2 : List (Option GE) := [none, none, some (.aload_n 0, 67, 0, 0, 0, 0, 0), some (.getfield 25, 70, 7, 4, 0, 0, 0), none, none, some (.iload 4, 72, 0, 0, 0, 0, 0), none, some (.iastore, 73, 0, 0, 0, 0, 0), some (.aload_n 0, 74, 0, 0, 0, 0, 0), some (.dup, 75, 0, 0, 0, 0, 0), some (.getfield 25, 78, 7, 4, 0, 0, 0), none, none, some (.iconst 1, 79, 1, 0, 0, 0, 0), some (.iadd, 80, 0, 0, 0, 0, 0), some (.putfield 25, 83, 7, 4, 0, 0, 0), none, none, some (.return_, 84, 0, 0, 0, 0, 0)]
def T_Rg_reach : List (List (Option GE)) := [T_Rg_reach_0, T_Rg_reach_1, T_Rg_reach_2]
def T_St_init_0 : List (Option GE) := [some (.aload_n 0, 1, 0, 0, 0, 0, 0), some (.invokespecial 3, 4, 0, 0, 0, 0, 26), none, none, some (.aload_n 0, 5, 0, 0, 0, 0, 0), some (.new 9, 8, 9, 4, 0, 0, 0), none, none, some (.dup, 9, 0, 0, 0, 0, 0), some (.invokespecial 11, 12, 84, 1, 2, 192, 1), none, none, some (.putfield 12, 15, 8, 0, 1, 1, 0), none, none, some (.aload_n 0, 16, 0, 0, 0, 0, 0), some (.new 18, 19, 4, 7, 0, 0, 0), none, none, some (.dup, 20, 0, 0, 0, 0, 0), some (.invokespecial 20, 23, 22, 1, 6, 192, 1), none, none, some (.putfield 21, 26, 8, 1, 1, 1, 0), none, none, some (.aload_n 0, 27, 0, 0, 0, 0, 0), some (.new 25, 30, 5, 5, 0, 0, 0), none, none, some (.dup, 31, 0, 0, 0, 0, 0), some (.invokespecial 27, 34, 32, 1, 2, 11, 1)]
def T_St_init_1 : List (Option GE) := [none, none, some (.putfield 28, 37, 8, 2, 1, 1, 0), none, none, some (.aload_n 0, 38, 0, 0, 0, 0, 0), some (.new 25, 41, 5, 5, 0, 0, 0), none, none, some (.dup, 42, 0, 0, 0, 0, 0), some (.invokespecial 27, 45, 32, 1, 2, 11, 1), none, none, some (.putfield 32, 48, 8, 3, 1, 1, 0), none, none, some (.aload_n 0, 49, 0, 0, 0, 0, 0), some (.iconst 0, 50, 0, 0, 0, 0, 0), some (.putfield 35, 53, 8, 4, 0, 0, 0), none, none, some (.aload_n 0, 54, 0, 0, 0, 0, 0), some (.iconst 0, 55, 0, 0, 0, 0, 0), some (.putfield 39, 58, 8, 5, 0, 0, 0), none, none, some (.return_, 59, 0, 0, 0, 0, 0)]
def T_St_init : List (List (Option GE)) := [T_St_init_0, T_St_init_1]
def T_St_clear_0 : List (Option GE) := [some (.aload_n 0, 1, 0, 0, 0, 0, 0), some (.getfield 12, 4, 8, 0, 1, 1, 0), none, none, some (.iload_n 1, 5, 0, 0, 0, 0, 0), some (.iload_n 2, 6, 0, 0, 0, 0, 0), some (.invokevirtual 42, 9, 85, 3, 0, 0, 1), none, none, some (.aload_n 0, 10, 0, 0, 0, 0, 0), some (.getfield 21, 13, 8, 1, 1, 1, 0), none, none, some (.iconst 0, 14, 0, 0, 0, 0, 0), some (.putfield 46, 17, 4, 0, 0, 0, 0), none, none, some (.aload_n 0, 18, 0, 0, 0, 0, 0), some (.getfield 28, 21, 8, 2, 1, 1, 0), none, none, some (.invokevirtual 49, 24, 33, 1, 0, 0, 1), none, none, some (.aload_n 0, 25, 0, 0, 0, 0, 0), some (.getfield 32, 28, 8, 3, 1, 1, 0), none, none, some (.invokevirtual 49, 31, 33, 1, 0, 0, 1), none, none, some (.aload_n 0, 32, 0, 0, 0, 0, 0)]
def T_St_clear_1 : List (Option GE) := [some (.iconst 0, 33, 0, 0, 0, 0, 0), some (.putfield 35, 36, 8, 4, 0, 0, 0), none, none, some (.aload_n 0, 37, 0, 0, 0, 0, 0), some (.iconst 0, 38, 0, 0, 0, 0, 0), some (.putfield 39, 41, 8, 5, 0, 0, 0), none, none, some (.return_, 42, 0, 0, 0, 0, 0)]
def T_St_clear : List (List (Option GE)) := [T_St_clear_0, T_St_clear_1]
def T_St_copyFrom_0 : List (Option GE) := [some (.aload_n 0, 1, 0, 0, 0, 0, 0), some (.getfield 12, 4, 8, 0, 1, 1, 0), none, none, some (.aload_n 1, 5, 0, 0, 0, 0, 0), some (.getfield 12, 8, 8, 0, 1, 1, 0), none, none, some (.invokevirtual 51, 11, 86, 2, 0, 0, 1), none, none, some (.aload_n 0, 12, 0, 0, 0, 0, 0), some (.getfield 21, 15, 8, 1, 1, 1, 0), none, none, some (.aload_n 1, 16, 0, 0, 0, 0, 0), some (.getfield 21, 19, 8, 1, 1, 1, 0), none, none, some (.invokevirtual 55, 22, 23, 2, 0, 0, 1), none, none, some (.aload_n 0, 23, 0, 0, 0, 0, 0), some (.getfield 28, 26, 8, 2, 1, 1, 0), none, none, some (.aload_n 1, 27, 0, 0, 0, 0, 0), some (.getfield 28, 30, 8, 2, 1, 1, 0), none, none, some (.invokevirtual 58, 33, 34, 2, 0, 0, 1), none]
def T_St_copyFrom_1 : List (Option GE) := [none, some (.aload_n 0, 34, 0, 0, 0, 0, 0), some (.getfield 32, 37, 8, 3, 1, 1, 0), none, none, some (.aload_n 1, 38, 0, 0, 0, 0, 0), some (.getfield 32, 41, 8, 3, 1, 1, 0), none, none, some (.invokevirtual 58, 44, 34, 2, 0, 0, 1), none, none, some (.aload_n 0, 45, 0, 0, 0, 0, 0), some (.aload_n 1, 46, 0, 0, 0, 0, 0), some (.getfield 35, 49, 8, 4, 0, 0, 0), none, none, some (.putfield 35, 52, 8, 4, 0, 0, 0), none, none, some (.aload_n 0, 53, 0, 0, 0, 0, 0), some (.aload_n 1, 54, 0, 0, 0, 0, 0), some (.getfield 39, 57, 8, 5, 0, 0, 0), none, none, some (.putfield 39, 60, 8, 5, 0, 0, 0), none, none, some (.return_, 61, 0, 0, 0, 0, 0)]
def T_St_copyFrom : List (List (Option GE)) := [T_St_copyFrom_0, T_St_copyFrom_1]
def T_St_isFinished_0 : List (Option GE) := [some (.aload_n 0, 1, 0, 0, 0, 0, 0), some (.getfield 39, 4, 8, 5, 0, 0, 0), none, none, some (.iconst 2, 5, 2, 0, 0, 0, 0), some (.if_icmp .lt 7, 8, 12, 0, 0, 0, 0), none, none, some (.iconst 1, 9, 1, 0, 0, 0, 0), some (.goto 4, 12, 13, 0, 0, 0, 0), none, none, some (.iconst 0, 13, 0, 0, 0, 0, 0), some (.ireturn, 14, 1, 0, 0, 0, 0)]
def T_St_isFinished : List (List (Option GE)) := [T_St_isFinished_0]
def T_St_playerOf_0 : List (Option GE) := [some (.iload_n 1, 1, 0, 0, 0, 0, 0), some (.ifCond .ne 10, 4, 11, 0, 0, 0, 0), none, none, some (.aload_n 0, 5, 0, 0, 0, 0, 0), some (.getfield 28, 8, 8, 2, 1, 1, 0), none, none, some (.goto 7, 11, 15, 0, 0, 0, 0), none, none, some (.aload_n 0, 12, 0, 0, 0, 0, 0), some (.getfield 32, 15, 8, 3, 1, 1, 0), none, none, some (.areturn, 16, 0, 0, 0, 0, 0)]
def T_St_playerOf : List (List (Option GE)) := [T_St_playerOf_0]
def T_St_allowsPiece_0 : List (Option GE) := [some (.aload_n 0, 1, 0, 0, 0, 0, 0), some (.invokevirtual 61, 4, 74, 1, 0, 0, 0), none, none, some (.ifCond .ne 36, 7, 40, 0, 0, 0, 0), none, none, some (.aload_n 0, 8, 0, 0, 0, 0, 0), some (.aload_n 0, 9, 0, 0, 0, 0, 0), some (.getfield 35, 12, 8, 4, 0, 0, 0), none, none, some (.invokevirtual 65, 15, 75, 2, 0, 0, 2), none, none, some (.aload_n 1, 16, 0, 0, 0, 0, 0), some (.getfield 69, 19, 2, 0, 0, 0, 0), none, none, some (.invokevirtual 74, 22, 37, 2, 0, 0, 0), none, none, some (.ifCond .le 18, 25, 40, 0, 0, 0, 0), none, none, some (.aload_n 0, 26, 0, 0, 0, 0, 0), some (.getfield 12, 29, 8, 0, 1, 1, 0), none, none, some (.aload_n 1, 30, 0, 0, 0, 0, 0), some (.invokevirtual 78, 33, 100, 2, 0, 0, 0), none]
def T_St_allowsPiece_1 : List (Option GE) := [none, some (.ifCond .ne 7, 36, 40, 0, 0, 0, 0), none, none, some (.iconst 1, 37, 1, 0, 0, 0, 0), some (.goto 4, 40, 41, 0, 0, 0, 0), none, none, some (.iconst 0, 41, 0, 0, 0, 0, 0), some (.ireturn, 42, 1, 0, 0, 0, 0)]
def T_St_allowsPiece : List (List (Option GE)) := [T_St_allowsPiece_0, T_St_allowsPiece_1]
def T_St_putPiece_0 : List (Option GE) := [some (.aload_n 0, 1, 0, 0, 0, 0, 0), some (.aload_n 0, 2, 0, 0, 0, 0, 0), some (.getfield 35, 5, 8, 4, 0, 0, 0), none, none, some (.invokevirtual 65, 8, 75, 2, 0, 0, 2), none, none, some (.astore_n 2, 9, 0, 0, 0, 0, 0), some (.aload_n 0, 10, 0, 0, 0, 0, 0), some (.getfield 12, 13, 8, 0, 1, 1, 0), none, none, some (.aload_n 1, 14, 0, 0, 0, 0, 0), some (.invokevirtual 82, 17, 104, 2, 0, 0, 0), none, none, some (.istore_n 3, 18, 0, 0, 0, 0, 0), some (.iconst 0, 19, 0, 0, 0, 0, 0), some (.istore 4, 21, 0, 0, 0, 0, 0), none, some (.iload 4, 23, 0, 0, 0, 0, 0), none, some (.aload_n 1, 24, 0, 0, 0, 0, 0), some (.getfield 85, 27, 2, 4, 0, 0, 0), none, none, some (.if_icmp .ge 35, 30, 62, 0, 0, 0, 0), none, none, some (.aload_n 0, 31, 0, 0, 0, 0, 0), some (.getfield 12, 34, 8, 0, 1, 1, 0)]
def T_St_putPiece_1 : List (Option GE) := [none, none, some (.aload_n 1, 35, 0, 0, 0, 0, 0), some (.iload 4, 37, 0, 0, 0, 0, 0), none, some (.invokevirtual 88, 40, 13, 2, 0, 0, 0), none, none, some (.aload_n 1, 41, 0, 0, 0, 0, 0), some (.iload 4, 43, 0, 0, 0, 0, 0), none, some (.invokevirtual 91, 46, 14, 2, 0, 0, 0), none, none, some (.aload_n 0, 47, 0, 0, 0, 0, 0), some (.getfield 21, 50, 8, 1, 1, 1, 0), none, none, some (.getfield 46, 53, 4, 0, 0, 0, 0), none, none, some (.invokevirtual 94, 56, 90, 4, 0, 0, 1), none, none, some (.iinc 4 1, 59, 1, 0, 0, 0, 0), none, none, some (.goto (-38), 62, 21, 0, 0, 0, 0), none, none, some (.aload_n 0, 63, 0, 0, 0, 0, 0), some (.getfield 21, 66, 8, 1, 1, 1, 0)]
def T_St_putPiece_2 : List (Option GE) := [none, none, some (.aload_n 1, 67, 0, 0, 0, 0, 0), some (.aload_n 0, 68, 0, 0, 0, 0, 0), some (.getfield 35, 71, 8, 4, 0, 0, 0), none, none, some (.iload_n 3, 72, 0, 0, 0, 0, 0), some (.invokevirtual 98, 75, 24, 4, 0, 0, 1), none, none, some (.aload_n 2, 76, 0, 0, 0, 0, 0), some (.aload_n 1, 77, 0, 0, 0, 0, 0), some (.getfield 69, 80, 2, 0, 0, 0, 0), none, none, some (.aload_n 2, 81, 0, 0, 0, 0, 0), some (.aload_n 1, 82, 0, 0, 0, 0, 0), some (.getfield 69, 85, 2, 0, 0, 0, 0), none, none, some (.invokevirtual 74, 88, 37, 2, 0, 0, 0), none, none, some (.iconst 1, 89, 1, 0, 0, 0, 0), some (.isub, 90, 0, 0, 0, 0, 0), some (.invokevirtual 102, 93, 38, 3, 0, 0, 1), none, none, some (.aload_n 2, 94, 0, 0, 0, 0, 0), some (.dup, 95, 0, 0, 0, 0, 0), some (.getfield 105, 98, 5, 0, 0, 0, 0)]
def T_St_putPiece_3 : List (Option GE) := [none, none, some (.iload_n 3, 99, 0, 0, 0, 0, 0), some (.iadd, 100, 0, 0, 0, 0, 0), some (.putfield 105, 103, 5, 0, 0, 0, 0), none, none, some (.aload_n 0, 104, 0, 0, 0, 0, 0), some (.iconst 0, 105, 0, 0, 0, 0, 0), some (.invokevirtual 108, 108, 83, 2, 0, 0, 1), none, none, some (.iload_n 3, 109, 0, 0, 0, 0, 0), some (.ireturn, 110, 0, 0, 0, 0, 0)]
def T_St_putPiece : List (List (Option GE)) := [T_St_putPiece_0, T_St_putPiece_1, T_St_putPiece_2, T_St_putPiece_3]
def T_St_allowsStrap_0 : List (Option GE) := [some (.aload_n 0, 1, 0, 0, 0, 0, 0), some (.invokevirtual 61, 4, 74, 1, 0, 0, 0), none, none, some (.ifCond .ne 60, 7, 64, 0, 0, 0, 0), none, none, some (.aload_n 0, 8, 0, 0, 0, 0, 0), some (.aload_n 0, 9, 0, 0, 0, 0, 0), some (.getfield 35, 12, 8, 4, 0, 0, 0), none, none, some (.invokevirtual 65, 15, 75, 2, 0, 0, 2), none, none, some (.getfield 112, 18, 5, 1, 0, 0, 0), none, none, some (.ifCond .le 46, 21, 64, 0, 0, 0, 0), none, none, some (.aload_n 0, 22, 0, 0, 0, 0, 0), some (.getfield 12, 25, 8, 0, 1, 1, 0), none, none, some (.iload_n 1, 26, 0, 0, 0, 0, 0), some (.iload_n 2, 27, 0, 0, 0, 0, 0), some (.iload_n 3, 28, 0, 0, 0, 0, 0), some (.invokevirtual 115, 31, 91, 4, 0, 0, 0), none, none, some (.ifCond .ne 33, 34, 64, 0, 0, 0, 0)]
def T_St_allowsStrap_1 : List (Option GE) := [none, none, some (.aload_n 0, 35, 0, 0, 0, 0, 0), some (.getfield 12, 38, 8, 0, 1, 1, 0), none, none, some (.iload_n 1, 39, 0, 0, 0, 0, 0), some (.iload_n 2, 40, 0, 0, 0, 0, 0), some (.iload_n 3, 41, 0, 0, 0, 0, 0), some (.invokevirtual 119, 44, 94, 4, 0, 0, 0), none, none, some (.ifCond .ne 20, 47, 64, 0, 0, 0, 0), none, none, some (.aload_n 0, 48, 0, 0, 0, 0, 0), some (.getfield 12, 51, 8, 0, 1, 1, 0), none, none, some (.iload_n 1, 52, 0, 0, 0, 0, 0), some (.iload_n 2, 53, 0, 0, 0, 0, 0), some (.iload_n 3, 54, 0, 0, 0, 0, 0), some (.invokevirtual 122, 57, 95, 4, 0, 0, 0), none, none, some (.ifCond .ne 7, 60, 64, 0, 0, 0, 0), none, none, some (.iconst 1, 61, 1, 0, 0, 0, 0), some (.goto 4, 64, 65, 0, 0, 0, 0), none, none]
def T_St_allowsStrap_2 : List (Option GE) := [some (.iconst 0, 65, 0, 0, 0, 0, 0), some (.ireturn, 66, 1, 0, 0, 0, 0)]
def T_St_allowsStrap : List (List (Option GE)) := [T_St_allowsStrap_0, T_St_allowsStrap_1, T_St_allowsStrap_2]
def T_St_putStrap_0 : List (Option GE) := [some (.aload_n 0, 1, 0, 0, 0, 0, 0), some (.aload_n 0, 2, 0, 0, 0, 0, 0), some (.getfield 35, 5, 8, 4, 0, 0, 0), none, none, some (.invokevirtual 65, 8, 75, 2, 0, 0, 2), none, none, some (.astore 4, 10, 0, 0, 0, 0, 0), none, some (.aload_n 0, 11, 0, 0, 0, 0, 0), some (.getfield 12, 14, 8, 0, 1, 1, 0), none, none, some (.iload_n 1, 15, 0, 0, 0, 0, 0), some (.iload_n 2, 16, 0, 0, 0, 0, 0), some (.iload_n 3, 17, 0, 0, 0, 0, 0), some (.invokevirtual 125, 20, 92, 4, 0, 0, 1), none, none, some (.aload 4, 22, 0, 0, 0, 0, 0), none, some (.dup, 23, 0, 0, 0, 0, 0), some (.getfield 112, 26, 5, 1, 0, 0, 0), none, none, some (.iconst 1, 27, 1, 0, 0, 0, 0), some (.isub, 28, 0, 0, 0, 0, 0), some (.putfield 112, 31, 5, 1, 0, 0, 0), none, none, some (.aload_n 0, 32, 0, 0, 0, 0, 0)]
def T_St_putStrap_1 : List (Option GE) := [some (.iconst 0, 33, 0, 0, 0, 0, 0), some (.invokevirtual 108, 36, 83, 2, 0, 0, 1), none, none, some (.aload 4, 38, 0, 0, 0, 0, 0), none, some (.getfield 112, 41, 5, 1, 0, 0, 0), none, none, some (.ireturn, 42, 0, 0, 0, 0, 0)]
def T_St_putStrap : List (List (Option GE)) := [T_St_putStrap_0, T_St_putStrap_1]
def T_St_allowsPass_0 : List (Option GE) := [some (.aload_n 0, 1, 0, 0, 0, 0, 0), some (.invokevirtual 61, 4, 74, 1, 0, 0, 0), none, none, some (.ifCond .eq 5, 7, 9, 0, 0, 0, 0), none, none, some (.iconst 0, 8, 0, 0, 0, 0, 0), some (.ireturn, 9, 1, 0, 0, 0, 0), some (.aload_n 0, 10, 0, 0, 0, 0, 0), some (.aload_n 0, 11, 0, 0, 0, 0, 0), some (.getfield 35, 14, 8, 4, 0, 0, 0), none, none, some (.invokevirtual 65, 17, 75, 2, 0, 0, 2), none, none, some (.astore_n 2, 18, 0, 0, 0, 0, 0), some (.iconst 0, 19, 0, 0, 0, 0, 0), some (.istore_n 3, 20, 0, 0, 0, 0, 0), some (.iload_n 3, 21, 0, 0, 0, 0, 0), some (.iconst 5, 22, 5, 0, 0, 0, 0), some (.if_icmp .ge 35, 25, 57, 0, 0, 0, 0), none, none, some (.aload_n 1, 26, 0, 0, 0, 0, 0), some (.iload_n 3, 27, 0, 0, 0, 0, 0), some (.invokevirtual 128, 30, 11, 2, 0, 0, 1), none, none, some (.aload_n 2, 31, 0, 0, 0, 0, 0), some (.iload_n 3, 32, 0, 0, 0, 0, 0)]
def T_St_allowsPass_1 : List (Option GE) := [some (.invokevirtual 74, 35, 37, 2, 0, 0, 0), none, none, some (.ifCond .le 16, 38, 51, 0, 0, 0, 0), none, none, some (.aload_n 0, 39, 0, 0, 0, 0, 0), some (.getfield 12, 42, 8, 0, 1, 1, 0), none, none, some (.aload_n 1, 43, 0, 0, 0, 0, 0), some (.invokevirtual 131, 46, 102, 2, 0, 0, 0), none, none, some (.ifCond .eq 5, 49, 51, 0, 0, 0, 0), none, none, some (.iconst 0, 50, 0, 0, 0, 0, 0), some (.ireturn, 51, 1, 0, 0, 0, 0), some (.iinc 3 1, 54, 1, 0, 0, 0, 0), none, none, some (.goto (-34), 57, 20, 0, 0, 0, 0), none, none, some (.iconst 1, 58, 1, 0, 0, 0, 0), some (.ireturn, 59, 1, 0, 0, 0, 0)]
def T_St_allowsPass : List (List (Option GE)) := [T_St_allowsPass_0, T_St_allowsPass_1]
def T_St_skipTurn_0 : List (Option GE) := [some (.aload_n 0, 1, 0, 0, 0, 0, 0), some (.aload_n 0, 2, 0, 0, 0, 0, 0), some (.getfield 39, 5, 8, 5, 0, 0, 0), none, none, some (.iconst 1, 6, 1, 0, 0, 0, 0), some (.iadd, 7, 0, 0, 0, 0, 0), some (.invokevirtual 108, 10, 83, 2, 0, 0, 1), none, none, some (.aload_n 0, 11, 0, 0, 0, 0, 0), some (.getfield 39, 14, 8, 5, 0, 0, 0), none, none, some (.ireturn, 15, 0, 0, 0, 0, 0)]
def T_St_skipTurn : List (List (Option GE)) := [T_St_skipTurn_0]
def T_St_countMoves_0 : List (Option GE) := [some (.iconst 0, 1, 0, 0, 0, 0, 0), some (.istore_n 3, 2, 0, 0, 0, 0, 0), some (.iconst 0, 3, 0, 0, 0, 0, 0), some (.istore 4, 5, 0, 0, 0, 0, 0), none, some (.iload 4, 7, 0, 0, 0, 0, 0), none, some (.iconst 5, 8, 5, 0, 0, 0, 0), some (.if_icmp .ge 35, 11, 43, 0, 0, 0, 0), none, none, some (.aload_n 0, 12, 0, 0, 0, 0, 0), some (.iload_n 1, 13, 0, 0, 0, 0, 0), some (.invokevirtual 65, 16, 75, 2, 0, 0, 2), none, none, some (.iload 4, 18, 0, 0, 0, 0, 0), none, some (.invokevirtual 74, 21, 37, 2, 0, 0, 0), none, none, some (.ifCond .le 16, 24, 37, 0, 0, 0, 0), none, none, some (.iload_n 3, 25, 0, 0, 0, 0, 0), some (.aload_n 0, 26, 0, 0, 0, 0, 0), some (.getfield 12, 29, 8, 0, 1, 1, 0), none, none, some (.iload 4, 31, 0, 0, 0, 0, 0), none, some (.aload_n 2, 32, 0, 0, 0, 0, 0)]
def T_St_countMoves_1 : List (Option GE) := [some (.invokevirtual 135, 35, 103, 3, 0, 0, 0), none, none, some (.iadd, 36, 0, 0, 0, 0, 0), some (.istore_n 3, 37, 0, 0, 0, 0, 0), some (.iinc 4 1, 40, 1, 0, 0, 0, 0), none, none, some (.goto (-35), 43, 5, 0, 0, 0, 0), none, none, some (.iload_n 3, 44, 0, 0, 0, 0, 0), some (.ireturn, 45, 0, 0, 0, 0, 0)]
def T_St_countMoves : List (List (Option GE)) := [T_St_countMoves_0, T_St_countMoves_1]
def T_St_endTurn_0 : List (Option GE) := [some (.aload_n 0, 1, 0, 0, 0, 0, 0), some (.iload_n 1, 2, 0, 0, 0, 0, 0), some (.putfield 39, 5, 8, 5, 0, 0, 0), none, none, some (.aload_n 0, 6, 0, 0, 0, 0, 0), some (.iconst 1, 7, 1, 0, 0, 0, 0), some (.aload_n 0, 8, 0, 0, 0, 0, 0), some (.getfield 35, 11, 8, 4, 0, 0, 0), none, none, some (.isub, 12, 0, 0, 0, 0, 0), some (.putfield 35, 15, 8, 4, 0, 0, 0), none, none, some (.return_, 16, 0, 0, 0, 0, 0)]
def T_St_endTurn : List (List (Option GE)) := [T_St_endTurn_0]
def T_Tk_init_0 : List (Option GE) := [some (.aload_n 0, 1, 0, 0, 0, 0, 0), some (.invokespecial 3, 4, 0, 0, 0, 0, 26), none, none, some (.aload_n 0, 5, 0, 0, 0, 0, 0), some (.iconst 3, 6, 3, 0, 0, 0, 0), some (.putfield 9, 9, 9, 0, 0, 0, 0), none, none, some (.aload_n 0, 10, 0, 0, 0, 0, 0), some (.iconst 3, 11, 3, 0, 0, 0, 0), some (.putfield 15, 14, 9, 1, 0, 0, 0), none, none, some (.aload_n 0, 15, 0, 0, 0, 0, 0), some (.bipush 64, 17, 64, 0, 0, 0, 0), none, some (.newarray .int, 19, 0, 0, 0, 0, 0), none, some (.putfield 18, 22, 9, 2, 1, 1, 0), none, none, some (.aload_n 0, 23, 0, 0, 0, 0, 0), some (.sipush 128, 26, 128, 0, 0, 0, 0), none, none, some (.newarray .boolean, 28, 0, 0, 0, 0, 0), none, some (.putfield 22, 31, 9, 3, 1, 1, 0), none, none, some (.return_, 32, 0, 0, 0, 0, 0)]
def T_Tk_init : List (List (Option GE)) := [T_Tk_init_0]
def T_Tk_clear_0 : List (Option GE) := [some (.aload_n 0, 1, 0, 0, 0, 0, 0), some (.iload_n 1, 2, 0, 0, 0, 0, 0), some (.bipush 8, 4, 8, 0, 0, 0, 0), none, some (.invokestatic 26, 7, 0, 0, 0, 0, 20), none, none, some (.putfield 9, 10, 9, 0, 0, 0, 0), none, none, some (.aload_n 0, 11, 0, 0, 0, 0, 0), some (.iload_n 2, 12, 0, 0, 0, 0, 0), some (.bipush 8, 14, 8, 0, 0, 0, 0), none, some (.invokestatic 26, 17, 0, 0, 0, 0, 20), none, none, some (.putfield 15, 20, 9, 1, 0, 0, 0), none, none, some (.iconst 0, 21, 0, 0, 0, 0, 0), some (.istore_n 3, 22, 0, 0, 0, 0, 0), some (.iload_n 3, 23, 0, 0, 0, 0, 0), some (.bipush 64, 25, 64, 0, 0, 0, 0), none, some (.if_icmp .ge 16, 28, 41, 0, 0, 0, 0), none, none, some (.aload_n 0, 29, 0, 0, 0, 0, 0), some (.getfield 18, 32, 9, 2, 1, 1, 0), none, none]
def T_Tk_clear_1 : List (Option GE) := [some (.iload_n 3, 33, 0, 0, 0, 0, 0), some (.iconst (-1), 34, 1, 1, 0, 0, 0), some (.iastore, 35, 0, 0, 0, 0, 0), some (.iinc 3 1, 38, 1, 0, 0, 0, 0), none, none, some (.goto (-16), 41, 22, 0, 0, 0, 0), none, none, some (.iconst 0, 42, 0, 0, 0, 0, 0), some (.istore_n 3, 43, 0, 0, 0, 0, 0), some (.iload_n 3, 44, 0, 0, 0, 0, 0), some (.sipush 128, 47, 128, 0, 0, 0, 0), none, none, some (.if_icmp .ge 16, 50, 63, 0, 0, 0, 0), none, none, some (.aload_n 0, 51, 0, 0, 0, 0, 0), some (.getfield 22, 54, 9, 3, 1, 1, 0), none, none, some (.iload_n 3, 55, 0, 0, 0, 0, 0), some (.iconst 0, 56, 0, 0, 0, 0, 0), some (.bastore, 57, 0, 0, 0, 0, 0), some (.iinc 3 1, 60, 1, 0, 0, 0, 0), none, none, some (.goto (-17), 63, 43, 0, 0, 0, 0), none, none, some (.return_, 64, 0, 0, 0, 0, 0)]
def T_Tk_clear : List (List (Option GE)) := [T_Tk_clear_0, T_Tk_clear_1]
def T_Tk_copyFrom_0 : List (Option GE) := [some (.aload_n 0, 1, 0, 0, 0, 0, 0), some (.aload_n 1, 2, 0, 0, 0, 0, 0), some (.getfield 9, 5, 9, 0, 0, 0, 0), none, none, some (.putfield 9, 8, 9, 0, 0, 0, 0), none, none, some (.aload_n 0, 9, 0, 0, 0, 0, 0), some (.aload_n 1, 10, 0, 0, 0, 0, 0), some (.getfield 15, 13, 9, 1, 0, 0, 0), none, none, some (.putfield 15, 16, 9, 1, 0, 0, 0), none, none, some (.aload_n 1, 17, 0, 0, 0, 0, 0), some (.getfield 18, 20, 9, 2, 1, 1, 0), none, none, some (.iconst 0, 21, 0, 0, 0, 0, 0), some (.aload_n 0, 22, 0, 0, 0, 0, 0), some (.getfield 18, 25, 9, 2, 1, 1, 0), none, none, some (.iconst 0, 26, 0, 0, 0, 0, 0), some (.bipush 64, 28, 64, 0, 0, 0, 0), none, some (.invokestatic 32, 31, 0, 0, 0, 0, 25), none, none, some (.aload_n 1, 32, 0, 0, 0, 0, 0)]
def T_Tk_copyFrom_1 : List (Option GE) := [some (.getfield 22, 35, 9, 3, 1, 1, 0), none, none, some (.iconst 0, 36, 0, 0, 0, 0, 0), some (.aload_n 0, 37, 0, 0, 0, 0, 0), some (.getfield 22, 40, 9, 3, 1, 1, 0), none, none, some (.iconst 0, 41, 0, 0, 0, 0, 0), some (.sipush 128, 44, 128, 0, 0, 0, 0), none, none, some (.invokestatic 32, 47, 0, 0, 0, 0, 25), none, none, some (.return_, 48, 0, 0, 0, 0, 0)]
def T_Tk_copyFrom : List (List (Option GE)) := [T_Tk_copyFrom_0, T_Tk_copyFrom_1]
def T_Tk_holds_0 : List (Option GE) := [some (.iload_n 1, 1, 0, 0, 0, 0, 0), some (.ifCond .lt 27, 4, 28, 0, 0, 0, 0), none, none, some (.iload_n 1, 5, 0, 0, 0, 0, 0), some (.aload_n 0, 6, 0, 0, 0, 0, 0), some (.getfield 9, 9, 9, 0, 0, 0, 0), none, none, some (.if_icmp .ge 19, 12, 28, 0, 0, 0, 0), none, none, some (.iload_n 2, 13, 0, 0, 0, 0, 0), some (.ifCond .lt 15, 16, 28, 0, 0, 0, 0), none, none, some (.iload_n 2, 17, 0, 0, 0, 0, 0), some (.aload_n 0, 18, 0, 0, 0, 0, 0), some (.getfield 15, 21, 9, 1, 0, 0, 0), none, none, some (.if_icmp .ge 7, 24, 28, 0, 0, 0, 0), none, none, some (.iconst 1, 25, 1, 0, 0, 0, 0), some (.goto 4, 28, 29, 0, 0, 0, 0), none, none, some (.iconst 0, 29, 0, 0, 0, 0, 0), some (.ireturn, 30, 1, 0, 0, 0, 0)]
def T_Tk_holds : List (List (Option GE)) := [T_Tk_holds_0]
def T_Tk_holdsEdge_0 : List (Option GE) := [some (.aload_n 0, 1, 0, 0, 0, 0, 0), some (.iload_n 1, 2, 0, 0, 0, 0, 0), some (.iload_n 2, 3, 0, 0, 0, 0, 0), some (.invokevirtual 38, 6, 87, 3, 0, 0, 0), none, none, some (.ifCond .ne 5, 9, 11, 0, 0, 0, 0), none, none, some (.iconst 0, 10, 0, 0, 0, 0, 0), some (.ireturn, 11, 1, 0, 0, 0, 0), some (.iload_n 3, 12, 0, 0, 0, 0, 0), some (.ifCond .ne 21, 15, 33, 0, 0, 0, 0), none, none, some (.iload_n 1, 16, 0, 0, 0, 0, 0), some (.aload_n 0, 17, 0, 0, 0, 0, 0), some (.getfield 9, 20, 9, 0, 0, 0, 0), none, none, some (.iconst 1, 21, 1, 0, 0, 0, 0), some (.isub, 22, 0, 0, 0, 0, 0), some (.if_icmp .ge 7, 25, 29, 0, 0, 0, 0), none, none, some (.iconst 1, 26, 1, 0, 0, 0, 0), some (.goto 22, 29, 48, 0, 0, 0, 0), none, none, some (.iconst 0, 30, 0, 0, 0, 0, 0), some (.goto 18, 33, 48, 0, 0, 0, 0), none]
def T_Tk_holdsEdge_1 : List (Option GE) := [none, some (.iload_n 2, 34, 0, 0, 0, 0, 0), some (.aload_n 0, 35, 0, 0, 0, 0, 0), some (.getfield 15, 38, 9, 1, 0, 0, 0), none, none, some (.iconst 1, 39, 1, 0, 0, 0, 0), some (.isub, 40, 0, 0, 0, 0, 0), some (.if_icmp .ge 7, 43, 47, 0, 0, 0, 0), none, none, some (.iconst 1, 44, 1, 0, 0, 0, 0), some (.goto 4, 47, 48, 0, 0, 0, 0), none, none, some (.iconst 0, 48, 0, 0, 0, 0, 0), some (.ireturn, 49, 1, 0, 0, 0, 0)]
def T_Tk_holdsEdge : List (List (Option GE)) := [T_Tk_holdsEdge_0, T_Tk_holdsEdge_1]
def T_Tk_cellAt_0 : List (Option GE) := [some (.iload_n 1, 1, 0, 0, 0, 0, 0), some (.ifCond .lt 23, 4, 24, 0, 0, 0, 0), none, none, some (.iload_n 1, 5, 0, 0, 0, 0, 0), some (.aload_n 0, 6, 0, 0, 0, 0, 0), some (.getfield 9, 9, 9, 0, 0, 0, 0), none, none, some (.if_icmp .ge 15, 12, 24, 0, 0, 0, 0), none, none, some (.iload_n 2, 13, 0, 0, 0, 0, 0), some (.ifCond .lt 11, 16, 24, 0, 0, 0, 0), none, none, some (.iload_n 2, 17, 0, 0, 0, 0, 0), some (.aload_n 0, 18, 0, 0, 0, 0, 0), some (.getfield 15, 21, 9, 1, 0, 0, 0), none, none, some (.if_icmp .lt 6, 24, 27, 0, 0, 0, 0), none, none, some (.bipush (-3), 26, 3, 1, 0, 0, 0), none, some (.ireturn, 27, 0, 0, 0, 0, 0), some (.aload_n 0, 28, 0, 0, 0, 0, 0), some (.getfield 18, 31, 9, 2, 1, 1, 0), none, none, some (.iload_n 2, 32, 0, 0, 0, 0, 0)]
def T_Tk_cellAt_1 : List (Option GE) := [some (.bipush 8, 34, 8, 0, 0, 0, 0), none, some (.imul, 35, 0, 0, 0, 0, 0), some (.iload_n 1, 36, 0, 0, 0, 0, 0), some (.iadd, 37, 0, 0, 0, 0, 0), some (.iaload, 38, 0, 0, 0, 0, 0), some (.ireturn, 39, 0, 0, 0, 0, 0)]
def T_Tk_cellAt : List (List (Option GE)) := [T_Tk_cellAt_0, T_Tk_cellAt_1]
def T_Tk_setCell_0 : List (Option GE) := [some (.aload_n 0, 1, 0, 0, 0, 0, 0), some (.iload_n 1, 2, 0, 0, 0, 0, 0), some (.iload_n 2, 3, 0, 0, 0, 0, 0), some (.invokevirtual 38, 6, 87, 3, 0, 0, 0), none, none, some (.ifCond .eq 15, 9, 21, 0, 0, 0, 0), none, none, some (.aload_n 0, 10, 0, 0, 0, 0, 0), some (.getfield 18, 13, 9, 2, 1, 1, 0), none, none, some (.iload_n 2, 14, 0, 0, 0, 0, 0), some (.bipush 8, 16, 8, 0, 0, 0, 0), none, some (.imul, 17, 0, 0, 0, 0, 0), some (.iload_n 1, 18, 0, 0, 0, 0, 0), some (.iadd, 19, 0, 0, 0, 0, 0), some (.iload_n 3, 20, 0, 0, 0, 0, 0), some (.iastore, 21, 0, 0, 0, 0, 0), some (.return_, 22, 0, 0, 0, 0, 0)]
def T_Tk_setCell : List (List (Option GE)) := [T_Tk_setCell_0]
def T_Tk_strapAt_0 : List (Option GE) := [some (.iload_n 1, 1, 0, 0, 0, 0, 0), some (.ifCond .lt 23, 4, 24, 0, 0, 0, 0), none, none, some (.iload_n 1, 5, 0, 0, 0, 0, 0), some (.aload_n 0, 6, 0, 0, 0, 0, 0), some (.getfield 9, 9, 9, 0, 0, 0, 0), none, none, some (.if_icmp .ge 15, 12, 24, 0, 0, 0, 0), none, none, some (.iload_n 2, 13, 0, 0, 0, 0, 0), some (.ifCond .lt 11, 16, 24, 0, 0, 0, 0), none, none, some (.iload_n 2, 17, 0, 0, 0, 0, 0), some (.aload_n 0, 18, 0, 0, 0, 0, 0), some (.getfield 15, 21, 9, 1, 0, 0, 0), none, none, some (.if_icmp .lt 5, 24, 26, 0, 0, 0, 0), none, none, some (.iconst 0, 25, 0, 0, 0, 0, 0), some (.ireturn, 26, 1, 0, 0, 0, 0), some (.iload_n 3, 27, 0, 0, 0, 0, 0), some (.ifCond .lt 8, 30, 35, 0, 0, 0, 0), none, none, some (.iload_n 3, 31, 0, 0, 0, 0, 0), some (.iconst 2, 32, 2, 0, 0, 0, 0)]
def T_Tk_strapAt_1 : List (Option GE) := [some (.if_icmp .lt 5, 35, 37, 0, 0, 0, 0), none, none, some (.iconst 0, 36, 0, 0, 0, 0, 0), some (.ireturn, 37, 1, 0, 0, 0, 0), some (.aload_n 0, 38, 0, 0, 0, 0, 0), some (.getfield 22, 41, 9, 3, 1, 1, 0), none, none, some (.iload_n 2, 42, 0, 0, 0, 0, 0), some (.bipush 8, 44, 8, 0, 0, 0, 0), none, some (.imul, 45, 0, 0, 0, 0, 0), some (.iload_n 1, 46, 0, 0, 0, 0, 0), some (.iadd, 47, 0, 0, 0, 0, 0), some (.iconst 2, 48, 2, 0, 0, 0, 0), some (.imul, 49, 0, 0, 0, 0, 0), some (.iload_n 3, 50, 0, 0, 0, 0, 0), some (.iadd, 51, 0, 0, 0, 0, 0), some (.baload, 52, 0, 0, 0, 0, 0), some (.ireturn, 53, 1, 0, 0, 0, 0)]
def T_Tk_strapAt : List (List (Option GE)) := [T_Tk_strapAt_0, T_Tk_strapAt_1]
def T_Tk_setStrap_0 : List (Option GE) := [some (.iload_n 3, 1, 0, 0, 0, 0, 0), some (.ifCond .lt 34, 4, 35, 0, 0, 0, 0), none, none, some (.iload_n 3, 5, 0, 0, 0, 0, 0), some (.iconst 2, 6, 2, 0, 0, 0, 0), some (.if_icmp .ge 29, 9, 35, 0, 0, 0, 0), none, none, some (.aload_n 0, 10, 0, 0, 0, 0, 0), some (.iload_n 1, 11, 0, 0, 0, 0, 0), some (.iload_n 2, 12, 0, 0, 0, 0, 0), some (.iload_n 3, 13, 0, 0, 0, 0, 0), some (.invokevirtual 42, 16, 88, 4, 0, 0, 0), none, none, some (.ifCond .eq 19, 19, 35, 0, 0, 0, 0), none, none, some (.aload_n 0, 20, 0, 0, 0, 0, 0), some (.getfield 22, 23, 9, 3, 1, 1, 0), none, none, some (.iload_n 2, 24, 0, 0, 0, 0, 0), some (.bipush 8, 26, 8, 0, 0, 0, 0), none, some (.imul, 27, 0, 0, 0, 0, 0), some (.iload_n 1, 28, 0, 0, 0, 0, 0), some (.iadd, 29, 0, 0, 0, 0, 0), some (.iconst 2, 30, 2, 0, 0, 0, 0), some (.imul, 31, 0, 0, 0, 0, 0), some (.iload_n 3, 32, 0, 0, 0, 0, 0)]
def T_Tk_setStrap_1 : List (Option GE) := [some (.iadd, 33, 0, 0, 0, 0, 0), some (.iconst 1, 34, 1, 0, 0, 0, 0), some (.bastore, 35, 0, 0, 0, 0, 0), some (.return_, 36, 0, 0, 0, 0, 0)]
def T_Tk_setStrap : List (List (Option GE)) := [T_Tk_setStrap_0, T_Tk_setStrap_1]
def T_Tk_cellBeyond_0 : List (Option GE) := [some (.iload_n 3, 1, 0, 0, 0, 0, 0), some (.ifCond .ne 14, 4, 15, 0, 0, 0, 0), none, none, some (.aload_n 0, 5, 0, 0, 0, 0, 0), some (.iload_n 1, 6, 0, 0, 0, 0, 0), some (.iconst 1, 7, 1, 0, 0, 0, 0), some (.iadd, 8, 0, 0, 0, 0, 0), some (.iload_n 2, 9, 0, 0, 0, 0, 0), some (.invokevirtual 46, 12, 89, 3, 0, 0, 0), none, none, some (.goto 11, 15, 23, 0, 0, 0, 0), none, none, some (.aload_n 0, 16, 0, 0, 0, 0, 0), some (.iload_n 1, 17, 0, 0, 0, 0, 0), some (.iload_n 2, 18, 0, 0, 0, 0, 0), some (.iconst 1, 19, 1, 0, 0, 0, 0), some (.iadd, 20, 0, 0, 0, 0, 0), some (.invokevirtual 46, 23, 89, 3, 0, 0, 0), none, none, some (.ireturn, 24, 0, 0, 0, 0, 0)]
def T_Tk_cellBeyond : List (List (Option GE)) := [T_Tk_cellBeyond_0]
def T_Tk_isEdgeBlocked_0 : List (Option GE) := [some (.aload_n 0, 1, 0, 0, 0, 0, 0), some (.iload_n 1, 2, 0, 0, 0, 0, 0), some (.iload_n 2, 3, 0, 0, 0, 0, 0), some (.invokevirtual 46, 6, 89, 3, 0, 0, 0), none, none, some (.bipush (-2), 8, 2, 1, 0, 0, 0), none, some (.if_icmp .eq 15, 11, 23, 0, 0, 0, 0), none, none, some (.aload_n 0, 12, 0, 0, 0, 0, 0), some (.iload_n 1, 13, 0, 0, 0, 0, 0), some (.iload_n 2, 14, 0, 0, 0, 0, 0), some (.iload_n 3, 15, 0, 0, 0, 0, 0), some (.invokevirtual 49, 18, 93, 4, 0, 0, 0), none, none, some (.bipush (-2), 20, 2, 1, 0, 0, 0), none, some (.if_icmp .ne 7, 23, 27, 0, 0, 0, 0), none, none, some (.iconst 1, 24, 1, 0, 0, 0, 0), some (.goto 4, 27, 28, 0, 0, 0, 0), none, none, some (.iconst 0, 28, 0, 0, 0, 0, 0), some (.ireturn, 29, 1, 0, 0, 0, 0)]
def T_Tk_isEdgeBlocked : List (List (Option GE)) := [T_Tk_isEdgeBlocked_0]
def T_Tk_isEdgeCovered_0 : List (Option GE) := [some (.aload_n 0, 1, 0, 0, 0, 0, 0), some (.iload_n 1, 2, 0, 0, 0, 0, 0), some (.iload_n 2, 3, 0, 0, 0, 0, 0), some (.invokevirtual 46, 6, 89, 3, 0, 0, 0), none, none, some (.istore 4, 8, 0, 0, 0, 0, 0), none, some (.iload 4, 10, 0, 0, 0, 0, 0), none, some (.ifCond .lt 19, 13, 29, 0, 0, 0, 0), none, none, some (.iload 4, 15, 0, 0, 0, 0, 0), none, some (.aload_n 0, 16, 0, 0, 0, 0, 0), some (.iload_n 1, 17, 0, 0, 0, 0, 0), some (.iload_n 2, 18, 0, 0, 0, 0, 0), some (.iload_n 3, 19, 0, 0, 0, 0, 0), some (.invokevirtual 49, 22, 93, 4, 0, 0, 0), none, none, some (.if_icmp .ne 7, 25, 29, 0, 0, 0, 0), none, none, some (.iconst 1, 26, 1, 0, 0, 0, 0), some (.goto 4, 29, 30, 0, 0, 0, 0), none, none, some (.iconst 0, 30, 0, 0, 0, 0, 0), some (.ireturn, 31, 1, 0, 0, 0, 0)]
def T_Tk_isEdgeCovered : List (List (Option GE)) := [T_Tk_isEdgeCovered_0]
def T_Tk_countEmptyIn_0 : List (Option GE) := [some (.iconst 0, 1, 0, 0, 0, 0, 0), some (.istore_n 2, 2, 0, 0, 0, 0, 0), some (.iconst 0, 3, 0, 0, 0, 0, 0), some (.istore_n 3, 4, 0, 0, 0, 0, 0), some (.iload_n 3, 5, 0, 0, 0, 0, 0), some (.aload_n 0, 6, 0, 0, 0, 0, 0), some (.getfield 9, 9, 9, 0, 0, 0, 0), none, none, some (.if_icmp .ge 22, 12, 31, 0, 0, 0, 0), none, none, some (.aload_n 0, 13, 0, 0, 0, 0, 0), some (.iload_n 3, 14, 0, 0, 0, 0, 0), some (.iload_n 1, 15, 0, 0, 0, 0, 0), some (.invokevirtual 46, 18, 89, 3, 0, 0, 0), none, none, some (.iconst (-1), 19, 1, 1, 0, 0, 0), some (.if_icmp .ne 6, 22, 25, 0, 0, 0, 0), none, none, some (.iinc 2 1, 25, 1, 0, 0, 0, 0), none, none, some (.iinc 3 1, 28, 1, 0, 0, 0, 0), none, none, some (.goto (-24), 31, 4, 0, 0, 0, 0), none, none, some (.iload_n 2, 32, 0, 0, 0, 0, 0)]
def T_Tk_countEmptyIn_1 : List (Option GE) := [some (.ireturn, 33, 0, 0, 0, 0, 0)]
def T_Tk_countEmptyIn : List (List (Option GE)) := [T_Tk_countEmptyIn_0, T_Tk_countEmptyIn_1]
def T_Tk_countCells_0 : List (Option GE) := [some (.iconst 0, 1, 0, 0, 0, 0, 0), some (.istore_n 2, 2, 0, 0, 0, 0, 0), some (.iconst 0, 3, 0, 0, 0, 0, 0), some (.istore_n 3, 4, 0, 0, 0, 0, 0), some (.iload_n 3, 5, 0, 0, 0, 0, 0), some (.aload_n 0, 6, 0, 0, 0, 0, 0), some (.getfield 15, 9, 9, 1, 0, 0, 0), none, none, some (.if_icmp .ge 41, 12, 50, 0, 0, 0, 0), none, none, some (.iconst 0, 13, 0, 0, 0, 0, 0), some (.istore 4, 15, 0, 0, 0, 0, 0), none, some (.iload 4, 17, 0, 0, 0, 0, 0), none, some (.aload_n 0, 18, 0, 0, 0, 0, 0), some (.getfield 9, 21, 9, 0, 0, 0, 0), none, none, some (.if_icmp .ge 23, 24, 44, 0, 0, 0, 0), none, none, some (.aload_n 0, 25, 0, 0, 0, 0, 0), some (.iload 4, 27, 0, 0, 0, 0, 0), none, some (.iload_n 3, 28, 0, 0, 0, 0, 0), some (.invokevirtual 46, 31, 89, 3, 0, 0, 0), none, none, some (.iload_n 1, 32, 0, 0, 0, 0, 0)]
def T_Tk_countCells_1 : List (Option GE) := [some (.if_icmp .ne 6, 35, 38, 0, 0, 0, 0), none, none, some (.iinc 2 1, 38, 1, 0, 0, 0, 0), none, none, some (.iinc 4 1, 41, 1, 0, 0, 0, 0), none, none, some (.goto (-26), 44, 15, 0, 0, 0, 0), none, none, some (.iinc 3 1, 47, 1, 0, 0, 0, 0), none, none, some (.goto (-43), 50, 4, 0, 0, 0, 0), none, none, some (.iload_n 2, 51, 0, 0, 0, 0, 0), some (.ireturn, 52, 0, 0, 0, 0, 0)]
def T_Tk_countCells : List (List (Option GE)) := [T_Tk_countCells_0, T_Tk_countCells_1]
def T_Tk_countCovered_0 : List (Option GE) := [some (.aload_n 0, 1, 0, 0, 0, 0, 0), some (.getfield 9, 4, 9, 0, 0, 0, 0), none, none, some (.aload_n 0, 5, 0, 0, 0, 0, 0), some (.getfield 15, 8, 9, 1, 0, 0, 0), none, none, some (.imul, 9, 0, 0, 0, 0, 0), some (.aload_n 0, 10, 0, 0, 0, 0, 0), some (.iconst (-1), 11, 1, 1, 0, 0, 0), some (.invokevirtual 53, 14, 97, 2, 0, 0, 0), none, none, some (.isub, 15, 0, 0, 0, 0, 0), some (.aload_n 0, 16, 0, 0, 0, 0, 0), some (.bipush (-2), 18, 2, 1, 0, 0, 0), none, some (.invokevirtual 53, 21, 97, 2, 0, 0, 0), none, none, some (.isub, 22, 0, 0, 0, 0, 0), some (.ireturn, 23, 0, 0, 0, 0, 0)]
def T_Tk_countCovered : List (List (Option GE)) := [T_Tk_countCovered_0]
def T_Tk_countStraps_0 : List (Option GE) := [some (.iconst 0, 1, 0, 0, 0, 0, 0), some (.istore_n 1, 2, 0, 0, 0, 0, 0), some (.iconst 0, 3, 0, 0, 0, 0, 0), some (.istore_n 2, 4, 0, 0, 0, 0, 0), some (.iload_n 2, 5, 0, 0, 0, 0, 0), some (.sipush 128, 8, 128, 0, 0, 0, 0), none, none, some (.if_icmp .ge 21, 11, 29, 0, 0, 0, 0), none, none, some (.aload_n 0, 12, 0, 0, 0, 0, 0), some (.getfield 22, 15, 9, 3, 1, 1, 0), none, none, some (.iload_n 2, 16, 0, 0, 0, 0, 0), some (.baload, 17, 0, 0, 0, 0, 0), some (.ifCond .eq 6, 20, 23, 0, 0, 0, 0), none, none, some (.iinc 1 1, 23, 1, 0, 0, 0, 0), none, none, some (.iinc 2 1, 26, 1, 0, 0, 0, 0), none, none, some (.goto (-22), 29, 4, 0, 0, 0, 0), none, none, some (.iload_n 1, 30, 0, 0, 0, 0, 0), some (.ireturn, 31, 0, 0, 0, 0, 0)]
def T_Tk_countStraps : List (List (Option GE)) := [T_Tk_countStraps_0]
def T_Tk_misfitOf_0 : List (Option GE) := [some (.iconst 0, 1, 0, 0, 0, 0, 0), some (.istore_n 2, 2, 0, 0, 0, 0, 0), some (.iconst 0, 3, 0, 0, 0, 0, 0), some (.istore_n 3, 4, 0, 0, 0, 0, 0), some (.iconst 0, 5, 0, 0, 0, 0, 0), some (.istore 4, 7, 0, 0, 0, 0, 0), none, some (.iload 4, 9, 0, 0, 0, 0, 0), none, some (.aload_n 1, 10, 0, 0, 0, 0, 0), some (.getfield 57, 13, 2, 4, 0, 0, 0), none, none, some (.if_icmp .ge 68, 16, 81, 0, 0, 0, 0), none, none, some (.aload_n 0, 17, 0, 0, 0, 0, 0), some (.aload_n 1, 18, 0, 0, 0, 0, 0), some (.iload 4, 20, 0, 0, 0, 0, 0), none, some (.invokevirtual 62, 23, 13, 2, 0, 0, 0), none, none, some (.aload_n 1, 24, 0, 0, 0, 0, 0), some (.iload 4, 26, 0, 0, 0, 0, 0), none, some (.invokevirtual 65, 29, 14, 2, 0, 0, 0), none, none, some (.invokevirtual 46, 32, 89, 3, 0, 0, 0), none, none]
def T_Tk_misfitOf_1 : List (Option GE) := [some (.istore 5, 34, 0, 0, 0, 0, 0), none, some (.iload 5, 36, 0, 0, 0, 0, 0), none, some (.bipush (-3), 38, 3, 1, 0, 0, 0), none, some (.if_icmp .ne 5, 41, 43, 0, 0, 0, 0), none, none, some (.iconst 1, 42, 1, 0, 0, 0, 0), some (.ireturn, 43, 0, 0, 0, 0, 0), some (.iload_n 2, 44, 0, 0, 0, 0, 0), some (.ifCond .ne 10, 47, 54, 0, 0, 0, 0), none, none, some (.iload 5, 49, 0, 0, 0, 0, 0), none, some (.bipush (-2), 51, 2, 1, 0, 0, 0), none, some (.if_icmp .ne 7, 54, 58, 0, 0, 0, 0), none, none, some (.iconst 1, 55, 1, 0, 0, 0, 0), some (.goto 4, 58, 59, 0, 0, 0, 0), none, none, some (.iconst 0, 59, 0, 0, 0, 0, 0), some (.istore_n 2, 60, 0, 0, 0, 0, 0), some (.iload_n 3, 61, 0, 0, 0, 0, 0), some (.ifCond .ne 8, 64, 69, 0, 0, 0, 0), none, none]
def T_Tk_misfitOf_2 : List (Option GE) := [some (.iload 5, 66, 0, 0, 0, 0, 0), none, some (.ifCond .lt 7, 69, 73, 0, 0, 0, 0), none, none, some (.iconst 1, 70, 1, 0, 0, 0, 0), some (.goto 4, 73, 74, 0, 0, 0, 0), none, none, some (.iconst 0, 74, 0, 0, 0, 0, 0), some (.istore_n 3, 75, 0, 0, 0, 0, 0), some (.iinc 4 1, 78, 1, 0, 0, 0, 0), none, none, some (.goto (-71), 81, 7, 0, 0, 0, 0), none, none, some (.iload_n 2, 82, 0, 0, 0, 0, 0), some (.ifCond .eq 5, 85, 87, 0, 0, 0, 0), none, none, some (.iconst 2, 86, 2, 0, 0, 0, 0), some (.ireturn, 87, 0, 0, 0, 0, 0), some (.iload_n 3, 88, 0, 0, 0, 0, 0), some (.ifCond .eq 5, 91, 93, 0, 0, 0, 0), none, none, some (.iconst 3, 92, 3, 0, 0, 0, 0), some (.ireturn, 93, 0, 0, 0, 0, 0), some (.aload_n 0, 94, 0, 0, 0, 0, 0), some (.aload_n 1, 95, 0, 0, 0, 0, 0), some (.invokevirtual 68, 98, 101, 2, 0, 0, 0)]
def T_Tk_misfitOf_3 : List (Option GE) := [none, none, some (.ifCond .eq 7, 101, 105, 0, 0, 0, 0), none, none, some (.iconst 4, 102, 4, 0, 0, 0, 0), some (.goto 4, 105, 106, 0, 0, 0, 0), none, none, some (.iconst 0, 106, 0, 0, 0, 0, 0), some (.ireturn, 107, 0, 0, 0, 0, 0)]
def T_Tk_misfitOf : List (List (Option GE)) := [T_Tk_misfitOf_0, T_Tk_misfitOf_1, T_Tk_misfitOf_2, T_Tk_misfitOf_3]
def T_Tk_isCrossedBy_0 : List (Option GE) := [some (.iconst 0, 1, 0, 0, 0, 0, 0), some (.istore_n 2, 2, 0, 0, 0, 0, 0), some (.iload_n 2, 3, 0, 0, 0, 0, 0), some (.aload_n 1, 4, 0, 0, 0, 0, 0), some (.getfield 72, 7, 2, 5, 0, 0, 0), none, none, some (.if_icmp .ge 39, 10, 46, 0, 0, 0, 0), none, none, some (.aload_n 1, 11, 0, 0, 0, 0, 0), some (.iload_n 2, 12, 0, 0, 0, 0, 0), some (.invokevirtual 75, 15, 15, 2, 0, 0, 0), none, none, some (.istore_n 3, 16, 0, 0, 0, 0, 0), some (.aload_n 1, 17, 0, 0, 0, 0, 0), some (.iload_n 2, 18, 0, 0, 0, 0, 0), some (.invokevirtual 78, 21, 16, 2, 0, 0, 0), none, none, some (.istore 4, 23, 0, 0, 0, 0, 0), none, some (.aload_n 0, 24, 0, 0, 0, 0, 0), some (.iload_n 3, 25, 0, 0, 0, 0, 0), some (.iload 4, 27, 0, 0, 0, 0, 0), none, some (.aload_n 1, 28, 0, 0, 0, 0, 0), some (.iload_n 2, 29, 0, 0, 0, 0, 0), some (.invokevirtual 81, 32, 17, 2, 0, 0, 0), none, none]
def T_Tk_isCrossedBy_1 : List (Option GE) := [some (.invokevirtual 84, 35, 91, 4, 0, 0, 0), none, none, some (.ifCond .eq 5, 38, 40, 0, 0, 0, 0), none, none, some (.iconst 1, 39, 1, 0, 0, 0, 0), some (.ireturn, 40, 1, 0, 0, 0, 0), some (.iinc 2 1, 43, 1, 0, 0, 0, 0), none, none, some (.goto (-41), 46, 2, 0, 0, 0, 0), none, none, some (.iconst 0, 47, 0, 0, 0, 0, 0), some (.ireturn, 48, 1, 0, 0, 0, 0)]
def T_Tk_isCrossedBy : List (List (Option GE)) := [T_Tk_isCrossedBy_0, T_Tk_isCrossedBy_1]
def T_Tk_findNext_0 : List (Option GE) := [some (.iconst 0, 1, 0, 0, 0, 0, 0), some (.istore_n 2, 2, 0, 0, 0, 0, 0), some (.iload_n 2, 3, 0, 0, 0, 0, 0), some (.sipush 256, 6, 256, 0, 0, 0, 0), none, none, some (.if_icmp .ge 36, 9, 42, 0, 0, 0, 0), none, none, some (.aload_n 1, 10, 0, 0, 0, 0, 0), some (.aload_n 0, 11, 0, 0, 0, 0, 0), some (.getfield 9, 14, 9, 0, 0, 0, 0), none, none, some (.aload_n 0, 15, 0, 0, 0, 0, 0), some (.getfield 15, 18, 9, 1, 0, 0, 0), none, none, some (.invokevirtual 87, 21, 12, 3, 0, 0, 0), none, none, some (.ifCond .ne 5, 24, 26, 0, 0, 0, 0), none, none, some (.iconst 0, 25, 0, 0, 0, 0, 0), some (.ireturn, 26, 1, 0, 0, 0, 0), some (.aload_n 0, 27, 0, 0, 0, 0, 0), some (.aload_n 1, 28, 0, 0, 0, 0, 0), some (.invokevirtual 90, 31, 100, 2, 0, 0, 0), none, none, some (.ifCond .ne 5, 34, 36, 0, 0, 0, 0)]
def T_Tk_findNext_1 : List (Option GE) := [none, none, some (.iconst 1, 35, 1, 0, 0, 0, 0), some (.ireturn, 36, 1, 0, 0, 0, 0), some (.iinc 2 1, 39, 1, 0, 0, 0, 0), none, none, some (.goto (-37), 42, 2, 0, 0, 0, 0), none, none, some (.iconst 0, 43, 0, 0, 0, 0, 0), some (.ireturn, 44, 1, 0, 0, 0, 0)]
def T_Tk_findNext : List (List (Option GE)) := [T_Tk_findNext_0, T_Tk_findNext_1]
def T_Tk_countFitting_0 : List (Option GE) := [some (.iconst 0, 1, 0, 0, 0, 0, 0), some (.istore_n 3, 2, 0, 0, 0, 0, 0), some (.aload_n 2, 3, 0, 0, 0, 0, 0), some (.iload_n 1, 4, 0, 0, 0, 0, 0), some (.invokevirtual 94, 7, 11, 2, 0, 0, 1), none, none, some (.iload_n 3, 8, 0, 0, 0, 0, 0), some (.sipush 256, 11, 256, 0, 0, 0, 0), none, none, some (.if_icmp .ge 17, 14, 28, 0, 0, 0, 0), none, none, some (.aload_n 0, 15, 0, 0, 0, 0, 0), some (.aload_n 2, 16, 0, 0, 0, 0, 0), some (.invokevirtual 98, 19, 102, 2, 0, 0, 0), none, none, some (.ifCond .eq 9, 22, 28, 0, 0, 0, 0), none, none, some (.iinc 3 1, 25, 1, 0, 0, 0, 0), none, none, some (.goto (-18), 28, 7, 0, 0, 0, 0), none, none, some (.iload_n 3, 29, 0, 0, 0, 0, 0), some (.ireturn, 30, 0, 0, 0, 0, 0)]
def T_Tk_countFitting : List (List (Option GE)) := [T_Tk_countFitting_0]
def T_Tk_pointsOf_0 : List (Option GE) := [some (.aload_n 1, 1, 0, 0, 0, 0, 0), some (.getfield 57, 4, 2, 4, 0, 0, 0), none, none, some (.istore_n 2, 5, 0, 0, 0, 0, 0), some (.iconst 0, 6, 0, 0, 0, 0, 0), some (.istore_n 3, 7, 0, 0, 0, 0, 0), some (.iload_n 3, 8, 0, 0, 0, 0, 0), some (.aload_n 0, 9, 0, 0, 0, 0, 0), some (.getfield 15, 12, 9, 1, 0, 0, 0), none, none, some (.if_icmp .ge 65, 15, 77, 0, 0, 0, 0), none, none, some (.iconst 0, 16, 0, 0, 0, 0, 0), some (.istore 4, 18, 0, 0, 0, 0, 0), none, some (.iconst 0, 19, 0, 0, 0, 0, 0), some (.istore 5, 21, 0, 0, 0, 0, 0), none, some (.iload 5, 23, 0, 0, 0, 0, 0), none, some (.aload_n 1, 24, 0, 0, 0, 0, 0), some (.getfield 57, 27, 2, 4, 0, 0, 0), none, none, some (.if_icmp .ge 22, 30, 49, 0, 0, 0, 0), none, none, some (.aload_n 1, 31, 0, 0, 0, 0, 0), some (.iload 5, 33, 0, 0, 0, 0, 0)]
def T_Tk_pointsOf_1 : List (Option GE) := [none, some (.invokevirtual 65, 36, 14, 2, 0, 0, 0), none, none, some (.iload_n 3, 37, 0, 0, 0, 0, 0), some (.if_icmp .ne 6, 40, 43, 0, 0, 0, 0), none, none, some (.iinc 4 1, 43, 1, 0, 0, 0, 0), none, none, some (.iinc 5 1, 46, 1, 0, 0, 0, 0), none, none, some (.goto (-25), 49, 21, 0, 0, 0, 0), none, none, some (.iload 4, 51, 0, 0, 0, 0, 0), none, some (.ifCond .le 20, 54, 71, 0, 0, 0, 0), none, none, some (.iload 4, 56, 0, 0, 0, 0, 0), none, some (.aload_n 0, 57, 0, 0, 0, 0, 0), some (.iload_n 3, 58, 0, 0, 0, 0, 0), some (.invokevirtual 101, 61, 96, 2, 0, 0, 0), none, none, some (.if_icmp .ne 10, 64, 71, 0, 0, 0, 0), none, none]
def T_Tk_pointsOf_2 : List (Option GE) := [some (.iload_n 2, 65, 0, 0, 0, 0, 0), some (.aload_n 0, 66, 0, 0, 0, 0, 0), some (.getfield 9, 69, 9, 0, 0, 0, 0), none, none, some (.iadd, 70, 0, 0, 0, 0, 0), some (.istore_n 2, 71, 0, 0, 0, 0, 0), some (.iinc 3 1, 74, 1, 0, 0, 0, 0), none, none, some (.goto (-67), 77, 7, 0, 0, 0, 0), none, none, some (.iload_n 2, 78, 0, 0, 0, 0, 0), some (.ireturn, 79, 0, 0, 0, 0, 0)]
def T_Tk_pointsOf : List (List (Option GE)) := [T_Tk_pointsOf_0, T_Tk_pointsOf_1, T_Tk_pointsOf_2]
def T_TD_init_0 : List (Option GE) := [some (.aload_n 0, 1, 0, 0, 0, 0, 0), some (.invokespecial 3, 4, 0, 0, 0, 0, 26), none, none, some (.aload_n 0, 5, 0, 0, 0, 0, 0), some (.new 9, 8, 6, 14, 0, 0, 0), none, none, some (.dup, 9, 0, 0, 0, 0, 0), some (.invokespecial 11, 12, 39, 1, 24, 1064, 1), none, none, some (.putfield 12, 15, 10, 0, 1, 1, 0), none, none, some (.aload_n 0, 16, 0, 0, 0, 0, 0), some (.new 16, 19, 8, 6, 0, 0, 0), none, none, some (.dup, 20, 0, 0, 0, 0, 0), some (.invokespecial 18, 23, 71, 1, 16, 427, 1), none, none, some (.putfield 19, 26, 10, 1, 1, 1, 0), none, none, some (.aload_n 0, 27, 0, 0, 0, 0, 0), some (.new 16, 30, 8, 6, 0, 0, 0), none, none, some (.dup, 31, 0, 0, 0, 0, 0), some (.invokespecial 18, 34, 71, 1, 16, 427, 1)]
def T_TD_init_1 : List (Option GE) := [none, none, some (.putfield 23, 37, 10, 2, 1, 1, 0), none, none, some (.aload_n 0, 38, 0, 0, 0, 0, 0), some (.new 26, 41, 3, 3, 0, 0, 0), none, none, some (.dup, 42, 0, 0, 0, 0, 0), some (.invokespecial 28, 45, 19, 1, 137, 3472, 1), none, none, some (.putfield 29, 48, 10, 3, 1, 1, 0), none, none, some (.aload_n 0, 49, 0, 0, 0, 0, 0), some (.iconst 2, 50, 2, 0, 0, 0, 0), some (.anewarray 16, 53, 0, 0, 0, 0, 0), none, none, some (.dup, 54, 0, 0, 0, 0, 0), some (.iconst 0, 55, 0, 0, 0, 0, 0), some (.new 16, 58, 8, 6, 0, 0, 0), none, none, some (.dup, 59, 0, 0, 0, 0, 0), some (.invokespecial 18, 62, 71, 1, 16, 427, 1), none, none, some (.aastore, 63, 0, 0, 0, 0, 0), some (.dup, 64, 0, 0, 0, 0, 0)]
def T_TD_init_2 : List (Option GE) := [some (.iconst 1, 65, 1, 0, 0, 0, 0), some (.new 16, 68, 8, 6, 0, 0, 0), none, none, some (.dup, 69, 0, 0, 0, 0, 0), some (.invokespecial 18, 72, 71, 1, 16, 427, 1), none, none, some (.aastore, 73, 0, 0, 0, 0, 0), some (.putfield 33, 76, 10, 4, 1, 1, 0), none, none, some (.aload_n 0, 77, 0, 0, 0, 0, 0), some (.iconst 2, 78, 2, 0, 0, 0, 0), some (.newarray .boolean, 80, 0, 0, 0, 0, 0), none, some (.putfield 37, 83, 10, 5, 1, 1, 0), none, none, some (.aload_n 0, 84, 0, 0, 0, 0, 0), some (.new 41, 87, 2, 11, 0, 0, 0), none, none, some (.dup, 88, 0, 0, 0, 0, 0), some (.invokespecial 43, 91, 8, 1, 5, 20, 1), none, none, some (.putfield 44, 94, 10, 6, 1, 1, 0), none, none, some (.aload_n 0, 95, 0, 0, 0, 0, 0), some (.new 48, 98, 0, 5, 0, 0, 0)]
def T_TD_init_3 : List (Option GE) := [none, none, some (.dup, 99, 0, 0, 0, 0, 0), some (.invokespecial 50, 102, 0, 1, 0, 0, 1), none, none, some (.putfield 51, 105, 10, 7, 1, 1, 0), none, none, some (.aload_n 0, 106, 0, 0, 0, 0, 0), some (.new 55, 109, 1, 1, 0, 0, 0), none, none, some (.dup, 110, 0, 0, 0, 0, 0), some (.invokespecial 57, 113, 4, 1, 1, 128, 1), none, none, some (.putfield 58, 116, 10, 8, 1, 1, 0), none, none, some (.aload_n 0, 117, 0, 0, 0, 0, 0), some (.new 62, 120, 7, 5, 0, 0, 0), none, none, some (.dup, 121, 0, 0, 0, 0, 0), some (.invokespecial 64, 124, 65, 1, 3, 192, 1), none, none, some (.putfield 65, 127, 10, 9, 1, 1, 0), none, none, some (.aload_n 0, 128, 0, 0, 0, 0, 0)]
def T_TD_init_4 : List (Option GE) := [some (.bipush 71, 130, 71, 0, 0, 0, 0), none, some (.newarray .int, 132, 0, 0, 0, 0, 0), none, some (.putfield 69, 135, 10, 10, 1, 1, 0), none, none, some (.aload_n 0, 136, 0, 0, 0, 0, 0), some (.iconst 0, 137, 0, 0, 0, 0, 0), some (.putfield 73, 140, 10, 11, 0, 0, 0), none, none, some (.aload_n 0, 141, 0, 0, 0, 0, 0), some (.getfield 12, 144, 10, 0, 1, 1, 0), none, none, some (.ldc 77, 146, 100016, 0, 0, 0, 1), none, some (.invokevirtual 79, 149, 41, 2, 0, 0, 1), none, none, some (.aload_n 0, 150, 0, 0, 0, 0, 0), some (.getfield 12, 153, 10, 0, 1, 1, 0), none, none, some (.invokevirtual 83, 156, 44, 1, 0, 0, 1), none, none, some (.aload_n 0, 157, 0, 0, 0, 0, 0), some (.getfield 12, 160, 10, 0, 1, 1, 0), none, none]
def T_TD_init_5 : List (Option GE) := [some (.invokevirtual 86, 163, 45, 1, 0, 0, 0), none, none, some (.ifCond .eq 27, 166, 190, 0, 0, 0, 0), none, none, some (.aload_n 0, 167, 0, 0, 0, 0, 0), some (.getfield 12, 170, 10, 0, 1, 1, 0), none, none, some (.invokevirtual 90, 173, 46, 1, 0, 0, 0), none, none, some (.ifCond .eq 17, 176, 190, 0, 0, 0, 0), none, none, some (.aload_n 0, 177, 0, 0, 0, 0, 0), some (.getfield 19, 180, 10, 1, 1, 1, 0), none, none, some (.aload_n 0, 181, 0, 0, 0, 0, 0), some (.getfield 12, 184, 10, 0, 1, 1, 0), none, none, some (.getfield 93, 187, 6, 4, 1, 1, 0), none, none, some (.invokevirtual 96, 190, 73, 2, 0, 0, 1), none, none, some (.aload_n 0, 191, 0, 0, 0, 0, 0), some (.getfield 12, 194, 10, 0, 1, 1, 0)]
def T_TD_init_6 : List (Option GE) := [none, none, some (.invokevirtual 100, 197, 64, 1, 0, 0, 1), none, none, some (.return_, 198, 0, 0, 0, 0, 0)]
def T_TD_init : List (List (Option GE)) := [T_TD_init_0, T_TD_init_1, T_TD_init_2, T_TD_init_3, T_TD_init_4, T_TD_init_5, T_TD_init_6]
def T_TD_append_0 : List (Option GE) := [some (.aload_n 0, 1, 0, 0, 0, 0, 0), some (.getfield 12, 4, 10, 0, 1, 1, 0), none, none, some (.invokevirtual 103, 7, 40, 1, 0, 0, 0), none, none, some (.ifCond .ne 5, 10, 12, 0, 0, 0, 0), none, none, some (.iconst (-1), 11, 1, 1, 0, 0, 0), some (.ireturn, 12, 0, 0, 0, 0, 0), some (.aload_n 0, 13, 0, 0, 0, 0, 0), some (.getfield 12, 16, 10, 0, 1, 1, 0), none, none, some (.iload_n 1, 17, 0, 0, 0, 0, 0), some (.invokevirtual 106, 20, 42, 2, 0, 0, 1), none, none, some (.aload_n 0, 21, 0, 0, 0, 0, 0), some (.getfield 12, 24, 10, 0, 1, 1, 0), none, none, some (.iload_n 2, 25, 0, 0, 0, 0, 0), some (.invokevirtual 106, 28, 42, 2, 0, 0, 1), none, none, some (.aload_n 0, 29, 0, 0, 0, 0, 0), some (.getfield 12, 32, 10, 0, 1, 1, 0), none, none]
def T_TD_append_1 : List (Option GE) := [some (.iload_n 3, 33, 0, 0, 0, 0, 0), some (.invokevirtual 106, 36, 42, 2, 0, 0, 1), none, none, some (.aload_n 0, 37, 0, 0, 0, 0, 0), some (.getfield 12, 40, 10, 0, 1, 1, 0), none, none, some (.iload 4, 42, 0, 0, 0, 0, 0), none, some (.invokevirtual 106, 45, 42, 2, 0, 0, 1), none, none, some (.aload_n 0, 46, 0, 0, 0, 0, 0), some (.getfield 12, 49, 10, 0, 1, 1, 0), none, none, some (.iload 5, 51, 0, 0, 0, 0, 0), none, some (.invokevirtual 106, 54, 42, 2, 0, 0, 1), none, none, some (.aload_n 0, 55, 0, 0, 0, 0, 0), some (.getfield 12, 58, 10, 0, 1, 1, 0), none, none, some (.getfield 110, 61, 6, 0, 0, 0, 0), none, none, some (.ireturn, 62, 0, 0, 0, 0, 0)]
def T_TD_append : List (List (Option GE)) := [T_TD_append_0, T_TD_append_1]
def T_TD_truncateInput_0 : List (Option GE) := [some (.iload_n 1, 1, 0, 0, 0, 0, 0), some (.ifCond .lt 14, 4, 15, 0, 0, 0, 0), none, none, some (.iload_n 1, 5, 0, 0, 0, 0, 0), some (.aload_n 0, 6, 0, 0, 0, 0, 0), some (.getfield 12, 9, 10, 0, 1, 1, 0), none, none, some (.getfield 110, 12, 6, 0, 0, 0, 0), none, none, some (.if_icmp .le 13, 15, 25, 0, 0, 0, 0), none, none, some (.new 113, 18, 0, 0, 115, 117, 1), none, none, none, none, none, none, none, none, none, some (.aload_n 0, 26, 0, 0, 0, 0, 0), some (.getfield 12, 29, 10, 0, 1, 1, 0), none, none, some (.iload_n 1, 30, 0, 0, 0, 0, 0), some (.putfield 110, 33, 6, 0, 0, 0, 0), none]
def T_TD_truncateInput_1 : List (Option GE) := [none, some (.iload_n 1, 34, 0, 0, 0, 0, 0), some (.ireturn, 35, 0, 0, 0, 0, 0)]
def T_TD_truncateInput : List (List (Option GE)) := [T_TD_truncateInput_0, T_TD_truncateInput_1]
def T_TD_load_0 : List (Option GE) := [some (.aload_n 0, 1, 0, 0, 0, 0, 0), some (.getfield 12, 4, 10, 0, 1, 1, 0), none, none, some (.invokevirtual 83, 7, 44, 1, 0, 0, 1), none, none, some (.aload_n 0, 8, 0, 0, 0, 0, 0), some (.getfield 12, 11, 10, 0, 1, 1, 0), none, none, some (.invokevirtual 86, 14, 45, 1, 0, 0, 0), none, none, some (.ifCond .eq 17, 17, 31, 0, 0, 0, 0), none, none, some (.aload_n 0, 18, 0, 0, 0, 0, 0), some (.getfield 12, 21, 10, 0, 1, 1, 0), none, none, some (.invokevirtual 90, 24, 46, 1, 0, 0, 0), none, none, some (.ifCond .eq 7, 27, 31, 0, 0, 0, 0), none, none, some (.iconst 1, 28, 1, 0, 0, 0, 0), some (.goto 4, 31, 32, 0, 0, 0, 0), none, none, some (.iconst 0, 32, 0, 0, 0, 0, 0)]
def T_TD_load_1 : List (Option GE) := [some (.istore_n 1, 33, 0, 0, 0, 0, 0), some (.aload_n 0, 34, 0, 0, 0, 0, 0), some (.getfield 12, 37, 10, 0, 1, 1, 0), none, none, some (.invokevirtual 100, 40, 64, 1, 0, 0, 1), none, none, some (.iload_n 1, 41, 0, 0, 0, 0, 0), some (.ifCond .ne 5, 44, 46, 0, 0, 0, 0), none, none, some (.iconst (-1), 45, 1, 1, 0, 0, 0), some (.ireturn, 46, 0, 0, 0, 0, 0), some (.aload_n 0, 47, 0, 0, 0, 0, 0), some (.getfield 29, 50, 10, 3, 1, 1, 0), none, none, some (.aload_n 0, 51, 0, 0, 0, 0, 0), some (.getfield 19, 54, 10, 1, 1, 1, 0), none, none, some (.invokevirtual 119, 57, 20, 2, 0, 0, 1), none, none, some (.aload_n 0, 58, 0, 0, 0, 0, 0), some (.getfield 19, 61, 10, 1, 1, 1, 0), none, none, some (.aload_n 0, 62, 0, 0, 0, 0, 0), some (.getfield 12, 65, 10, 0, 1, 1, 0), none]
def T_TD_load_2 : List (Option GE) := [none, some (.getfield 93, 68, 6, 4, 1, 1, 0), none, none, some (.invokevirtual 96, 71, 73, 2, 0, 0, 1), none, none, some (.aload_n 0, 72, 0, 0, 0, 0, 0), some (.getfield 19, 75, 10, 1, 1, 1, 0), none, none, some (.getfield 122, 78, 8, 0, 1, 1, 0), none, none, some (.iconst (-1), 79, 1, 1, 0, 0, 0), some (.invokevirtual 126, 82, 97, 2, 0, 0, 0), none, none, some (.ireturn, 83, 0, 0, 0, 0, 0)]
def T_TD_load : List (List (Option GE)) := [T_TD_load_0, T_TD_load_1, T_TD_load_2]
def T_TD_place_0 : List (Option GE) := [some (.aload_n 0, 1, 0, 0, 0, 0, 0), some (.iload_n 1, 2, 0, 0, 0, 0, 0), some (.iload_n 2, 3, 0, 0, 0, 0, 0), some (.iload_n 3, 4, 0, 0, 0, 0, 0), some (.iload 4, 6, 0, 0, 0, 0, 0), none, some (.invokevirtual 144, 9, 152, 5, 3, 18, 11), none, none, some (.aload_n 0, 10, 0, 0, 0, 0, 0), some (.getfield 19, 13, 10, 1, 1, 1, 0), none, none, some (.aload_n 0, 14, 0, 0, 0, 0, 0), some (.getfield 44, 17, 10, 6, 1, 1, 0), none, none, some (.invokevirtual 148, 20, 76, 2, 0, 0, 0), none, none, some (.ifCond .ne 13, 23, 33, 0, 0, 0, 0), none, none, some (.new 152, 26, 2, 0, 154, 156, 1), none, none, none, none, none, none, none, none]
def T_TD_place_1 : List (Option GE) := [none, some (.aload_n 0, 34, 0, 0, 0, 0, 0), some (.getfield 29, 37, 10, 3, 1, 1, 0), none, none, some (.aload_n 0, 38, 0, 0, 0, 0, 0), some (.getfield 19, 41, 10, 1, 1, 1, 0), none, none, some (.invokevirtual 119, 44, 20, 2, 0, 0, 1), none, none, some (.aload_n 0, 45, 0, 0, 0, 0, 0), some (.getfield 19, 48, 10, 1, 1, 1, 0), none, none, some (.aload_n 0, 49, 0, 0, 0, 0, 0), some (.getfield 44, 52, 10, 6, 1, 1, 0), none, none, some (.invokevirtual 157, 55, 77, 2, 0, 0, 0), none, none, some (.ireturn, 56, 0, 0, 0, 0, 0)]
def T_TD_place : List (List (Option GE)) := [T_TD_place_0, T_TD_place_1]
def T_TD_fastenStrap_0 : List (Option GE) := [some (.aload_n 0, 1, 0, 0, 0, 0, 0), some (.iload_n 1, 2, 0, 0, 0, 0, 0), some (.iload_n 2, 3, 0, 0, 0, 0, 0), some (.iload_n 3, 4, 0, 0, 0, 0, 0), some (.invokevirtual 161, 7, 156, 4, 2, 12, 11), none, none, some (.aload_n 0, 8, 0, 0, 0, 0, 0), some (.getfield 19, 11, 10, 1, 1, 1, 0), none, none, some (.iload_n 1, 12, 0, 0, 0, 0, 0), some (.iload_n 2, 13, 0, 0, 0, 0, 0), some (.iload_n 3, 14, 0, 0, 0, 0, 0), some (.invokevirtual 165, 17, 78, 4, 0, 0, 0), none, none, some (.ifCond .ne 13, 20, 30, 0, 0, 0, 0), none, none, some (.new 152, 23, 2, 0, 169, 156, 1), none, none, none, none, none, none, none, none, none, some (.aload_n 0, 31, 0, 0, 0, 0, 0), some (.getfield 29, 34, 10, 3, 1, 1, 0)]
def T_TD_fastenStrap_1 : List (Option GE) := [none, none, some (.aload_n 0, 35, 0, 0, 0, 0, 0), some (.getfield 19, 38, 10, 1, 1, 1, 0), none, none, some (.invokevirtual 119, 41, 20, 2, 0, 0, 1), none, none, some (.aload_n 0, 42, 0, 0, 0, 0, 0), some (.getfield 19, 45, 10, 1, 1, 1, 0), none, none, some (.iload_n 1, 46, 0, 0, 0, 0, 0), some (.iload_n 2, 47, 0, 0, 0, 0, 0), some (.iload_n 3, 48, 0, 0, 0, 0, 0), some (.invokevirtual 171, 51, 79, 4, 0, 0, 0), none, none, some (.ireturn, 52, 0, 0, 0, 0, 0)]
def T_TD_fastenStrap : List (List (Option GE)) := [T_TD_fastenStrap_0, T_TD_fastenStrap_1]
def T_TD_pass_0 : List (Option GE) := [some (.aload_n 0, 1, 0, 0, 0, 0, 0), some (.getfield 19, 4, 10, 1, 1, 1, 0), none, none, some (.aload_n 0, 5, 0, 0, 0, 0, 0), some (.getfield 44, 8, 10, 6, 1, 1, 0), none, none, some (.invokevirtual 175, 11, 80, 2, 0, 0, 0), none, none, some (.ifCond .ne 13, 14, 24, 0, 0, 0, 0), none, none, some (.new 152, 17, 2, 0, 178, 156, 1), none, none, none, none, none, none, none, none, none, some (.aload_n 0, 25, 0, 0, 0, 0, 0), some (.getfield 29, 28, 10, 3, 1, 1, 0), none, none, some (.aload_n 0, 29, 0, 0, 0, 0, 0), some (.getfield 19, 32, 10, 1, 1, 1, 0), none, none]
def T_TD_pass_1 : List (Option GE) := [some (.invokevirtual 119, 35, 20, 2, 0, 0, 1), none, none, some (.aload_n 0, 36, 0, 0, 0, 0, 0), some (.getfield 19, 39, 10, 1, 1, 1, 0), none, none, some (.invokevirtual 180, 42, 81, 1, 0, 0, 0), none, none, some (.ireturn, 43, 0, 0, 0, 0, 0)]
def T_TD_pass : List (List (Option GE)) := [T_TD_pass_0, T_TD_pass_1]
def T_TD_undo_0 : List (Option GE) := [some (.aload_n 0, 1, 0, 0, 0, 0, 0), some (.getfield 29, 4, 10, 3, 1, 1, 0), none, none, some (.getfield 184, 7, 3, 0, 0, 0, 0), none, none, some (.ifCond .ne 13, 10, 20, 0, 0, 0, 0), none, none, some (.new 152, 13, 2, 0, 187, 156, 1), none, none, none, none, none, none, none, none, none, some (.aload_n 0, 21, 0, 0, 0, 0, 0), some (.getfield 29, 24, 10, 3, 1, 1, 0), none, none, some (.aload_n 0, 25, 0, 0, 0, 0, 0), some (.getfield 19, 28, 10, 1, 1, 1, 0), none, none, some (.invokevirtual 189, 31, 21, 2, 0, 0, 1), none, none, some (.aload_n 0, 32, 0, 0, 0, 0, 0)]
def T_TD_undo_1 : List (Option GE) := [some (.getfield 29, 35, 10, 3, 1, 1, 0), none, none, some (.getfield 184, 38, 3, 0, 0, 0, 0), none, none, some (.ireturn, 39, 0, 0, 0, 0, 0)]
def T_TD_undo : List (List (Option GE)) := [T_TD_undo_0, T_TD_undo_1]
def T_TD_columns_0 : List (Option GE) := [some (.aload_n 0, 1, 0, 0, 0, 0, 0), some (.getfield 19, 4, 10, 1, 1, 1, 0), none, none, some (.getfield 122, 7, 8, 0, 1, 1, 0), none, none, some (.getfield 204, 10, 9, 0, 0, 0, 0), none, none, some (.ireturn, 11, 0, 0, 0, 0, 0)]
def T_TD_columns : List (List (Option GE)) := [T_TD_columns_0]
def T_TD_rows_0 : List (Option GE) := [some (.aload_n 0, 1, 0, 0, 0, 0, 0), some (.getfield 19, 4, 10, 1, 1, 1, 0), none, none, some (.getfield 122, 7, 8, 0, 1, 1, 0), none, none, some (.getfield 207, 10, 9, 1, 0, 0, 0), none, none, some (.ireturn, 11, 0, 0, 0, 0, 0)]
def T_TD_rows : List (List (Option GE)) := [T_TD_rows_0]
def T_TD_emptyCells_0 : List (Option GE) := [some (.aload_n 0, 1, 0, 0, 0, 0, 0), some (.getfield 19, 4, 10, 1, 1, 1, 0), none, none, some (.getfield 122, 7, 8, 0, 1, 1, 0), none, none, some (.iconst (-1), 8, 1, 1, 0, 0, 0), some (.invokevirtual 126, 11, 97, 2, 0, 0, 0), none, none, some (.ireturn, 12, 0, 0, 0, 0, 0)]
def T_TD_emptyCells : List (List (Option GE)) := [T_TD_emptyCells_0]
def T_TD_pieceCount_0 : List (Option GE) := [some (.aload_n 0, 1, 0, 0, 0, 0, 0), some (.getfield 19, 4, 10, 1, 1, 1, 0), none, none, some (.getfield 195, 7, 8, 1, 1, 1, 0), none, none, some (.getfield 199, 10, 4, 0, 0, 0, 0), none, none, some (.ireturn, 11, 0, 0, 0, 0, 0)]
def T_TD_pieceCount : List (List (Option GE)) := [T_TD_pieceCount_0]
def T_TD_strapCount_0 : List (Option GE) := [some (.aload_n 0, 1, 0, 0, 0, 0, 0), some (.getfield 19, 4, 10, 1, 1, 1, 0), none, none, some (.getfield 122, 7, 8, 0, 1, 1, 0), none, none, some (.invokevirtual 210, 10, 99, 1, 0, 0, 0), none, none, some (.ireturn, 11, 0, 0, 0, 0, 0)]
def T_TD_strapCount : List (List (Option GE)) := [T_TD_strapCount_0]
def T_TD_completeRows_0 : List (Option GE) := [some (.iconst 0, 1, 0, 0, 0, 0, 0), some (.istore_n 1, 2, 0, 0, 0, 0, 0), some (.iconst 0, 3, 0, 0, 0, 0, 0), some (.istore_n 2, 4, 0, 0, 0, 0, 0), some (.iload_n 2, 5, 0, 0, 0, 0, 0), some (.aload_n 0, 6, 0, 0, 0, 0, 0), some (.getfield 19, 9, 10, 1, 1, 1, 0), none, none, some (.getfield 122, 12, 8, 0, 1, 1, 0), none, none, some (.getfield 207, 15, 9, 1, 0, 0, 0), none, none, some (.if_icmp .ge 26, 18, 41, 0, 0, 0, 0), none, none, some (.aload_n 0, 19, 0, 0, 0, 0, 0), some (.getfield 19, 22, 10, 1, 1, 1, 0), none, none, some (.getfield 122, 25, 8, 0, 1, 1, 0), none, none, some (.iload_n 2, 26, 0, 0, 0, 0, 0), some (.invokevirtual 213, 29, 96, 2, 0, 0, 0), none, none, some (.ifCond .ne 6, 32, 35, 0, 0, 0, 0), none, none]
def T_TD_completeRows_1 : List (Option GE) := [some (.iinc 1 1, 35, 1, 0, 0, 0, 0), none, none, some (.iinc 2 1, 38, 1, 0, 0, 0, 0), none, none, some (.goto (-34), 41, 4, 0, 0, 0, 0), none, none, some (.iload_n 1, 42, 0, 0, 0, 0, 0), some (.ireturn, 43, 0, 0, 0, 0, 0)]
def T_TD_completeRows : List (List (Option GE)) := [T_TD_completeRows_0, T_TD_completeRows_1]
def T_TD_undoableChanges_0 : List (Option GE) := [some (.aload_n 0, 1, 0, 0, 0, 0, 0), some (.getfield 29, 4, 10, 3, 1, 1, 0), none, none, some (.getfield 184, 7, 3, 0, 0, 0, 0), none, none, some (.ireturn, 8, 0, 0, 0, 0, 0)]
def T_TD_undoableChanges : List (List (Option GE)) := [T_TD_undoableChanges_0]
def T_TD_isBlocked_0 : List (Option GE) := [some (.aload_n 0, 1, 0, 0, 0, 0, 0), some (.iload_n 1, 2, 0, 0, 0, 0, 0), some (.iload_n 2, 3, 0, 0, 0, 0, 0), some (.invokevirtual 216, 6, 155, 3, 1, 6, 11), none, none, some (.aload_n 0, 7, 0, 0, 0, 0, 0), some (.getfield 19, 10, 10, 1, 1, 1, 0), none, none, some (.getfield 122, 13, 8, 0, 1, 1, 0), none, none, some (.iload_n 1, 14, 0, 0, 0, 0, 0), some (.iload_n 2, 15, 0, 0, 0, 0, 0), some (.invokevirtual 220, 18, 89, 3, 0, 0, 0), none, none, some (.bipush (-2), 20, 2, 1, 0, 0, 0), none, some (.if_icmp .ne 7, 23, 27, 0, 0, 0, 0), none, none, some (.iconst 1, 24, 1, 0, 0, 0, 0), some (.goto 4, 27, 28, 0, 0, 0, 0), none, none, some (.iconst 0, 28, 0, 0, 0, 0, 0), some (.ireturn, 29, 1, 0, 0, 0, 0)]
def T_TD_isBlocked : List (List (Option GE)) := [T_TD_isBlocked_0]
def T_TD_pieceAt_0 : List (Option GE) := [some (.aload_n 0, 1, 0, 0, 0, 0, 0), some (.iload_n 1, 2, 0, 0, 0, 0, 0), some (.iload_n 2, 3, 0, 0, 0, 0, 0), some (.invokevirtual 216, 6, 155, 3, 1, 6, 11), none, none, some (.aload_n 0, 7, 0, 0, 0, 0, 0), some (.getfield 19, 10, 10, 1, 1, 1, 0), none, none, some (.getfield 122, 13, 8, 0, 1, 1, 0), none, none, some (.iload_n 1, 14, 0, 0, 0, 0, 0), some (.iload_n 2, 15, 0, 0, 0, 0, 0), some (.invokevirtual 220, 18, 89, 3, 0, 0, 0), none, none, some (.istore_n 3, 19, 0, 0, 0, 0, 0), some (.iload_n 3, 20, 0, 0, 0, 0, 0), some (.ifCond .lt 7, 23, 27, 0, 0, 0, 0), none, none, some (.iload_n 3, 24, 0, 0, 0, 0, 0), some (.goto 4, 27, 28, 0, 0, 0, 0), none, none, some (.iconst (-1), 28, 1, 1, 0, 0, 0), some (.ireturn, 29, 0, 0, 0, 0, 0)]
def T_TD_pieceAt : List (List (Option GE)) := [T_TD_pieceAt_0]
def T_TD_hasStrap_0 : List (Option GE) := [some (.aload_n 0, 1, 0, 0, 0, 0, 0), some (.iload_n 1, 2, 0, 0, 0, 0, 0), some (.iload_n 2, 3, 0, 0, 0, 0, 0), some (.iload_n 3, 4, 0, 0, 0, 0, 0), some (.invokevirtual 161, 7, 156, 4, 2, 12, 11), none, none, some (.aload_n 0, 8, 0, 0, 0, 0, 0), some (.getfield 19, 11, 10, 1, 1, 1, 0), none, none, some (.getfield 122, 14, 8, 0, 1, 1, 0), none, none, some (.iload_n 1, 15, 0, 0, 0, 0, 0), some (.iload_n 2, 16, 0, 0, 0, 0, 0), some (.iload_n 3, 17, 0, 0, 0, 0, 0), some (.invokevirtual 224, 20, 91, 4, 0, 0, 0), none, none, some (.ireturn, 21, 1, 0, 0, 0, 0)]
def T_TD_hasStrap : List (List (Option GE)) := [T_TD_hasStrap_0]
def T_TD_emptyInRow_0 : List (Option GE) := [some (.iload_n 1, 1, 0, 0, 0, 0, 0), some (.ifCond .lt 17, 4, 18, 0, 0, 0, 0), none, none, some (.iload_n 1, 5, 0, 0, 0, 0, 0), some (.aload_n 0, 6, 0, 0, 0, 0, 0), some (.getfield 19, 9, 10, 1, 1, 1, 0), none, none, some (.getfield 122, 12, 8, 0, 1, 1, 0), none, none, some (.getfield 207, 15, 9, 1, 0, 0, 0), none, none, some (.if_icmp .lt 13, 18, 28, 0, 0, 0, 0), none, none, some (.new 227, 21, 1, 0, 229, 231, 1), none, none, none, none, none, none, none, none, none, some (.aload_n 0, 29, 0, 0, 0, 0, 0), some (.getfield 19, 32, 10, 1, 1, 1, 0), none, none]
def T_TD_emptyInRow_1 : List (Option GE) := [some (.getfield 122, 35, 8, 0, 1, 1, 0), none, none, some (.iload_n 1, 36, 0, 0, 0, 0, 0), some (.invokevirtual 213, 39, 96, 2, 0, 0, 0), none, none, some (.ireturn, 40, 0, 0, 0, 0, 0)]
def T_TD_emptyInRow : List (List (Option GE)) := [T_TD_emptyInRow_0, T_TD_emptyInRow_1]
def T_TD_pieceShape_0 : List (Option GE) := [some (.aload_n 0, 1, 0, 0, 0, 0, 0), some (.iload_n 1, 2, 0, 0, 0, 0, 0), some (.invokevirtual 232, 5, 157, 2, 1, 6, 11), none, none, some (.aload_n 0, 6, 0, 0, 0, 0, 0), some (.getfield 19, 9, 10, 1, 1, 1, 0), none, none, some (.getfield 195, 12, 8, 1, 1, 1, 0), none, none, some (.iload_n 1, 13, 0, 0, 0, 0, 0), some (.invokevirtual 235, 16, 26, 2, 0, 0, 0), none, none, some (.ireturn, 17, 0, 0, 0, 0, 0)]
def T_TD_pieceShape : List (List (Option GE)) := [T_TD_pieceShape_0]
def T_TD_pieceRotation_0 : List (Option GE) := [some (.aload_n 0, 1, 0, 0, 0, 0, 0), some (.iload_n 1, 2, 0, 0, 0, 0, 0), some (.invokevirtual 232, 5, 157, 2, 1, 6, 11), none, none, some (.aload_n 0, 6, 0, 0, 0, 0, 0), some (.getfield 19, 9, 10, 1, 1, 1, 0), none, none, some (.getfield 195, 12, 8, 1, 1, 1, 0), none, none, some (.iload_n 1, 13, 0, 0, 0, 0, 0), some (.invokevirtual 238, 16, 27, 2, 0, 0, 0), none, none, some (.ireturn, 17, 0, 0, 0, 0, 0)]
def T_TD_pieceRotation : List (List (Option GE)) := [T_TD_pieceRotation_0]
def T_TD_pieceColumn_0 : List (Option GE) := [some (.aload_n 0, 1, 0, 0, 0, 0, 0), some (.iload_n 1, 2, 0, 0, 0, 0, 0), some (.invokevirtual 232, 5, 157, 2, 1, 6, 11), none, none, some (.aload_n 0, 6, 0, 0, 0, 0, 0), some (.getfield 19, 9, 10, 1, 1, 1, 0), none, none, some (.getfield 195, 12, 8, 1, 1, 1, 0), none, none, some (.iload_n 1, 13, 0, 0, 0, 0, 0), some (.invokevirtual 241, 16, 28, 2, 0, 0, 0), none, none, some (.ireturn, 17, 0, 0, 0, 0, 0)]
def T_TD_pieceColumn : List (List (Option GE)) := [T_TD_pieceColumn_0]
def T_TD_pieceRow_0 : List (Option GE) := [some (.aload_n 0, 1, 0, 0, 0, 0, 0), some (.iload_n 1, 2, 0, 0, 0, 0, 0), some (.invokevirtual 232, 5, 157, 2, 1, 6, 11), none, none, some (.aload_n 0, 6, 0, 0, 0, 0, 0), some (.getfield 19, 9, 10, 1, 1, 1, 0), none, none, some (.getfield 195, 12, 8, 1, 1, 1, 0), none, none, some (.iload_n 1, 13, 0, 0, 0, 0, 0), some (.invokevirtual 244, 16, 29, 2, 0, 0, 0), none, none, some (.ireturn, 17, 0, 0, 0, 0, 0)]
def T_TD_pieceRow : List (List (Option GE)) := [T_TD_pieceRow_0]
def T_TD_pieceOwner_0 : List (Option GE) := [some (.aload_n 0, 1, 0, 0, 0, 0, 0), some (.iload_n 1, 2, 0, 0, 0, 0, 0), some (.invokevirtual 232, 5, 157, 2, 1, 6, 11), none, none, some (.aload_n 0, 6, 0, 0, 0, 0, 0), some (.getfield 19, 9, 10, 1, 1, 1, 0), none, none, some (.getfield 195, 12, 8, 1, 1, 1, 0), none, none, some (.iload_n 1, 13, 0, 0, 0, 0, 0), some (.invokevirtual 247, 16, 30, 2, 0, 0, 0), none, none, some (.ireturn, 17, 0, 0, 0, 0, 0)]
def T_TD_pieceOwner : List (List (Option GE)) := [T_TD_pieceOwner_0]
def T_TD_piecePoints_0 : List (Option GE) := [some (.aload_n 0, 1, 0, 0, 0, 0, 0), some (.iload_n 1, 2, 0, 0, 0, 0, 0), some (.invokevirtual 232, 5, 157, 2, 1, 6, 11), none, none, some (.aload_n 0, 6, 0, 0, 0, 0, 0), some (.getfield 19, 9, 10, 1, 1, 1, 0), none, none, some (.getfield 195, 12, 8, 1, 1, 1, 0), none, none, some (.iload_n 1, 13, 0, 0, 0, 0, 0), some (.invokevirtual 250, 16, 31, 2, 0, 0, 0), none, none, some (.ireturn, 17, 0, 0, 0, 0, 0)]
def T_TD_piecePoints : List (List (Option GE)) := [T_TD_piecePoints_0]
def T_TD_playerToMove_0 : List (Option GE) := [some (.aload_n 0, 1, 0, 0, 0, 0, 0), some (.getfield 19, 4, 10, 1, 1, 1, 0), none, none, some (.invokevirtual 253, 7, 74, 1, 0, 0, 0), none, none, some (.ifCond .eq 7, 10, 14, 0, 0, 0, 0), none, none, some (.iconst (-1), 11, 1, 1, 0, 0, 0), some (.goto 10, 14, 21, 0, 0, 0, 0), none, none, some (.aload_n 0, 15, 0, 0, 0, 0, 0), some (.getfield 19, 18, 10, 1, 1, 1, 0), none, none, some (.getfield 256, 21, 8, 4, 0, 0, 0), none, none, some (.ireturn, 22, 0, 0, 0, 0, 0)]
def T_TD_playerToMove : List (List (Option GE)) := [T_TD_playerToMove_0]
def T_TD_isOver_0 : List (Option GE) := [some (.aload_n 0, 1, 0, 0, 0, 0, 0), some (.getfield 19, 4, 10, 1, 1, 1, 0), none, none, some (.invokevirtual 253, 7, 74, 1, 0, 0, 0), none, none, some (.ireturn, 8, 1, 0, 0, 0, 0)]
def T_TD_isOver : List (List (Option GE)) := [T_TD_isOver_0]
def T_TD_leader_0 : List (Option GE) := [some (.aload_n 0, 1, 0, 0, 0, 0, 0), some (.getfield 19, 4, 10, 1, 1, 1, 0), none, none, some (.getfield 259, 7, 8, 2, 1, 1, 0), none, none, some (.getfield 263, 10, 5, 0, 0, 0, 0), none, none, some (.aload_n 0, 11, 0, 0, 0, 0, 0), some (.getfield 19, 14, 10, 1, 1, 1, 0), none, none, some (.getfield 268, 17, 8, 3, 1, 1, 0), none, none, some (.getfield 263, 20, 5, 0, 0, 0, 0), none, none, some (.isub, 21, 0, 0, 0, 0, 0), some (.istore_n 1, 22, 0, 0, 0, 0, 0), some (.iload_n 1, 23, 0, 0, 0, 0, 0), some (.ifCond .ne 5, 26, 28, 0, 0, 0, 0), none, none, some (.iconst (-1), 27, 1, 1, 0, 0, 0), some (.ireturn, 28, 0, 0, 0, 0, 0), some (.iload_n 1, 29, 0, 0, 0, 0, 0), some (.ifCond .le 7, 32, 36, 0, 0, 0, 0), none, none]
def T_TD_leader_1 : List (Option GE) := [some (.iconst 0, 33, 0, 0, 0, 0, 0), some (.goto 4, 36, 37, 0, 0, 0, 0), none, none, some (.iconst 1, 37, 1, 0, 0, 0, 0), some (.ireturn, 38, 0, 0, 0, 0, 0)]
def T_TD_leader : List (List (Option GE)) := [T_TD_leader_0, T_TD_leader_1]
def T_TD_score_0 : List (Option GE) := [some (.iload_n 1, 1, 0, 0, 0, 0, 0), some (.invokestatic 271, 4, 154, 1, 1, 6, 11), none, none, some (.aload_n 0, 5, 0, 0, 0, 0, 0), some (.getfield 19, 8, 10, 1, 1, 1, 0), none, none, some (.iload_n 1, 9, 0, 0, 0, 0, 0), some (.invokevirtual 274, 12, 75, 2, 0, 0, 2), none, none, some (.getfield 263, 15, 5, 0, 0, 0, 0), none, none, some (.ireturn, 16, 0, 0, 0, 0, 0)]
def T_TD_score : List (List (Option GE)) := [T_TD_score_0]
def T_TD_supply_0 : List (Option GE) := [some (.iload_n 1, 1, 0, 0, 0, 0, 0), some (.invokestatic 271, 4, 154, 1, 1, 6, 11), none, none, some (.iload_n 2, 5, 0, 0, 0, 0, 0), some (.invokestatic 278, 8, 153, 1, 1, 6, 11), none, none, some (.aload_n 0, 9, 0, 0, 0, 0, 0), some (.getfield 19, 12, 10, 1, 1, 1, 0), none, none, some (.iload_n 1, 13, 0, 0, 0, 0, 0), some (.invokevirtual 274, 16, 75, 2, 0, 0, 2), none, none, some (.iload_n 2, 17, 0, 0, 0, 0, 0), some (.invokevirtual 281, 20, 37, 2, 0, 0, 0), none, none, some (.ireturn, 21, 0, 0, 0, 0, 0)]
def T_TD_supply : List (List (Option GE)) := [T_TD_supply_0]
def T_TD_strapsLeft_0 : List (Option GE) := [some (.iload_n 1, 1, 0, 0, 0, 0, 0), some (.invokestatic 271, 4, 154, 1, 1, 6, 11), none, none, some (.aload_n 0, 5, 0, 0, 0, 0, 0), some (.getfield 19, 8, 10, 1, 1, 1, 0), none, none, some (.iload_n 1, 9, 0, 0, 0, 0, 0), some (.invokevirtual 274, 12, 75, 2, 0, 0, 2), none, none, some (.getfield 284, 15, 5, 1, 0, 0, 0), none, none, some (.ireturn, 16, 0, 0, 0, 0, 0)]
def T_TD_strapsLeft : List (List (Option GE)) := [T_TD_strapsLeft_0]
def T_TD_fits_0 : List (Option GE) := [some (.aload_n 0, 1, 0, 0, 0, 0, 0), some (.iload_n 1, 2, 0, 0, 0, 0, 0), some (.iload_n 2, 3, 0, 0, 0, 0, 0), some (.iload_n 3, 4, 0, 0, 0, 0, 0), some (.iload 4, 6, 0, 0, 0, 0, 0), none, some (.invokevirtual 144, 9, 152, 5, 3, 18, 11), none, none, some (.aload_n 0, 10, 0, 0, 0, 0, 0), some (.getfield 19, 13, 10, 1, 1, 1, 0), none, none, some (.getfield 122, 16, 8, 0, 1, 1, 0), none, none, some (.aload_n 0, 17, 0, 0, 0, 0, 0), some (.getfield 44, 20, 10, 6, 1, 1, 0), none, none, some (.invokevirtual 290, 23, 100, 2, 0, 0, 0), none, none, some (.ifCond .ne 7, 26, 30, 0, 0, 0, 0), none, none, some (.iconst 1, 27, 1, 0, 0, 0, 0), some (.goto 4, 30, 31, 0, 0, 0, 0), none, none, some (.iconst 0, 31, 0, 0, 0, 0, 0), some (.ireturn, 32, 1, 0, 0, 0, 0)]
def T_TD_fits : List (List (Option GE)) := [T_TD_fits_0]
def T_TD_misfitReason_0 : List (Option GE) := [some (.aload_n 0, 1, 0, 0, 0, 0, 0), some (.iload_n 1, 2, 0, 0, 0, 0, 0), some (.iload_n 2, 3, 0, 0, 0, 0, 0), some (.iload_n 3, 4, 0, 0, 0, 0, 0), some (.iload 4, 6, 0, 0, 0, 0, 0), none, some (.invokevirtual 144, 9, 152, 5, 3, 18, 11), none, none, some (.aload_n 0, 10, 0, 0, 0, 0, 0), some (.getfield 19, 13, 10, 1, 1, 1, 0), none, none, some (.getfield 122, 16, 8, 0, 1, 1, 0), none, none, some (.aload_n 0, 17, 0, 0, 0, 0, 0), some (.getfield 44, 20, 10, 6, 1, 1, 0), none, none, some (.invokevirtual 290, 23, 100, 2, 0, 0, 0), none, none, some (.ireturn, 24, 0, 0, 0, 0, 0)]
def T_TD_misfitReason : List (List (Option GE)) := [T_TD_misfitReason_0]
def T_TD_pointsFor_0 : List (Option GE) := [some (.aload_n 0, 1, 0, 0, 0, 0, 0), some (.iload_n 1, 2, 0, 0, 0, 0, 0), some (.iload_n 2, 3, 0, 0, 0, 0, 0), some (.iload_n 3, 4, 0, 0, 0, 0, 0), some (.iload 4, 6, 0, 0, 0, 0, 0), none, some (.invokevirtual 144, 9, 152, 5, 3, 18, 11), none, none, some (.aload_n 0, 10, 0, 0, 0, 0, 0), some (.getfield 19, 13, 10, 1, 1, 1, 0), none, none, some (.getfield 122, 16, 8, 0, 1, 1, 0), none, none, some (.aload_n 0, 17, 0, 0, 0, 0, 0), some (.getfield 44, 20, 10, 6, 1, 1, 0), none, none, some (.invokevirtual 290, 23, 100, 2, 0, 0, 0), none, none, some (.ifCond .eq 5, 26, 28, 0, 0, 0, 0), none, none, some (.iconst (-1), 27, 1, 1, 0, 0, 0), some (.ireturn, 28, 0, 0, 0, 0, 0), some (.aload_n 0, 29, 0, 0, 0, 0, 0), some (.getfield 19, 32, 10, 1, 1, 1, 0), none, none]
def T_TD_pointsFor_1 : List (Option GE) := [some (.getfield 122, 35, 8, 0, 1, 1, 0), none, none, some (.aload_n 0, 36, 0, 0, 0, 0, 0), some (.getfield 44, 39, 10, 6, 1, 1, 0), none, none, some (.invokevirtual 293, 42, 104, 2, 0, 0, 0), none, none, some (.ireturn, 43, 0, 0, 0, 0, 0)]
def T_TD_pointsFor : List (List (Option GE)) := [T_TD_pointsFor_0, T_TD_pointsFor_1]
def T_TD_mobility_0 : List (Option GE) := [some (.iload_n 1, 1, 0, 0, 0, 0, 0), some (.invokestatic 271, 4, 154, 1, 1, 6, 11), none, none, some (.aload_n 0, 5, 0, 0, 0, 0, 0), some (.getfield 19, 8, 10, 1, 1, 1, 0), none, none, some (.iload_n 1, 9, 0, 0, 0, 0, 0), some (.aload_n 0, 10, 0, 0, 0, 0, 0), some (.getfield 44, 13, 10, 6, 1, 1, 0), none, none, some (.invokevirtual 295, 16, 82, 3, 0, 0, 0), none, none, some (.ireturn, 17, 0, 0, 0, 0, 0)]
def T_TD_mobility : List (List (Option GE)) := [T_TD_mobility_0]
def T_TD_mobilityAfter_0 : List (Option GE) := [some (.aload_n 0, 1, 0, 0, 0, 0, 0), some (.iload_n 1, 2, 0, 0, 0, 0, 0), some (.iload_n 2, 3, 0, 0, 0, 0, 0), some (.iload_n 3, 4, 0, 0, 0, 0, 0), some (.iload 4, 6, 0, 0, 0, 0, 0), none, some (.invokevirtual 144, 9, 152, 5, 3, 18, 11), none, none, some (.iload 5, 11, 0, 0, 0, 0, 0), none, some (.invokestatic 271, 14, 154, 1, 1, 6, 11), none, none, some (.aload_n 0, 15, 0, 0, 0, 0, 0), some (.getfield 19, 18, 10, 1, 1, 1, 0), none, none, some (.aload_n 0, 19, 0, 0, 0, 0, 0), some (.getfield 44, 22, 10, 6, 1, 1, 0), none, none, some (.invokevirtual 148, 25, 76, 2, 0, 0, 0), none, none, some (.ifCond .ne 5, 28, 30, 0, 0, 0, 0), none, none, some (.iconst (-1), 29, 1, 1, 0, 0, 0), some (.ireturn, 30, 0, 0, 0, 0, 0), some (.aload_n 0, 31, 0, 0, 0, 0, 0), some (.getfield 23, 34, 10, 2, 1, 1, 0)]
def T_TD_mobilityAfter_1 : List (Option GE) := [none, none, some (.aload_n 0, 35, 0, 0, 0, 0, 0), some (.getfield 19, 38, 10, 1, 1, 1, 0), none, none, some (.invokevirtual 96, 41, 73, 2, 0, 0, 1), none, none, some (.aload_n 0, 42, 0, 0, 0, 0, 0), some (.getfield 23, 45, 10, 2, 1, 1, 0), none, none, some (.aload_n 0, 46, 0, 0, 0, 0, 0), some (.getfield 44, 49, 10, 6, 1, 1, 0), none, none, some (.invokevirtual 157, 52, 77, 2, 0, 0, 0), none, none, some (.pop, 53, 0, 0, 0, 0, 0), some (.aload_n 0, 54, 0, 0, 0, 0, 0), some (.getfield 23, 57, 10, 2, 1, 1, 0), none, none, some (.iload 5, 59, 0, 0, 0, 0, 0), none, some (.aload_n 0, 60, 0, 0, 0, 0, 0), some (.getfield 44, 63, 10, 6, 1, 1, 0), none, none, some (.invokevirtual 295, 66, 82, 3, 0, 0, 0)]
def T_TD_mobilityAfter_2 : List (Option GE) := [none, none, some (.ireturn, 67, 0, 0, 0, 0, 0)]
def T_TD_mobilityAfter : List (List (Option GE)) := [T_TD_mobilityAfter_0, T_TD_mobilityAfter_1, T_TD_mobilityAfter_2]
def T_TD_bestShape_0 : List (Option GE) := [some (.aload_n 0, 1, 0, 0, 0, 0, 0), some (.getfield 51, 4, 10, 7, 1, 1, 0), none, none, some (.aload_n 0, 5, 0, 0, 0, 0, 0), some (.getfield 19, 8, 10, 1, 1, 1, 0), none, none, some (.aload_n 0, 9, 0, 0, 0, 0, 0), some (.getfield 44, 12, 10, 6, 1, 1, 0), none, none, some (.invokevirtual 302, 15, 1, 3, 0, 0, 1), none, none, some (.aload_n 0, 16, 0, 0, 0, 0, 0), some (.getfield 51, 19, 10, 7, 1, 1, 0), none, none, some (.getfield 306, 22, 0, 0, 0, 0, 0), none, none, some (.ireturn, 23, 0, 0, 0, 0, 0)]
def T_TD_bestShape : List (List (Option GE)) := [T_TD_bestShape_0]
def T_TD_bestRotation_0 : List (Option GE) := [some (.aload_n 0, 1, 0, 0, 0, 0, 0), some (.getfield 51, 4, 10, 7, 1, 1, 0), none, none, some (.aload_n 0, 5, 0, 0, 0, 0, 0), some (.getfield 19, 8, 10, 1, 1, 1, 0), none, none, some (.aload_n 0, 9, 0, 0, 0, 0, 0), some (.getfield 44, 12, 10, 6, 1, 1, 0), none, none, some (.invokevirtual 302, 15, 1, 3, 0, 0, 1), none, none, some (.aload_n 0, 16, 0, 0, 0, 0, 0), some (.getfield 51, 19, 10, 7, 1, 1, 0), none, none, some (.getfield 309, 22, 0, 1, 0, 0, 0), none, none, some (.ireturn, 23, 0, 0, 0, 0, 0)]
def T_TD_bestRotation : List (List (Option GE)) := [T_TD_bestRotation_0]
def T_TD_bestColumn_0 : List (Option GE) := [some (.aload_n 0, 1, 0, 0, 0, 0, 0), some (.getfield 51, 4, 10, 7, 1, 1, 0), none, none, some (.aload_n 0, 5, 0, 0, 0, 0, 0), some (.getfield 19, 8, 10, 1, 1, 1, 0), none, none, some (.aload_n 0, 9, 0, 0, 0, 0, 0), some (.getfield 44, 12, 10, 6, 1, 1, 0), none, none, some (.invokevirtual 302, 15, 1, 3, 0, 0, 1), none, none, some (.aload_n 0, 16, 0, 0, 0, 0, 0), some (.getfield 51, 19, 10, 7, 1, 1, 0), none, none, some (.getfield 312, 22, 0, 2, 0, 0, 0), none, none, some (.ireturn, 23, 0, 0, 0, 0, 0)]
def T_TD_bestColumn : List (List (Option GE)) := [T_TD_bestColumn_0]
def T_TD_bestRow_0 : List (Option GE) := [some (.aload_n 0, 1, 0, 0, 0, 0, 0), some (.getfield 51, 4, 10, 7, 1, 1, 0), none, none, some (.aload_n 0, 5, 0, 0, 0, 0, 0), some (.getfield 19, 8, 10, 1, 1, 1, 0), none, none, some (.aload_n 0, 9, 0, 0, 0, 0, 0), some (.getfield 44, 12, 10, 6, 1, 1, 0), none, none, some (.invokevirtual 302, 15, 1, 3, 0, 0, 1), none, none, some (.aload_n 0, 16, 0, 0, 0, 0, 0), some (.getfield 51, 19, 10, 7, 1, 1, 0), none, none, some (.getfield 315, 22, 0, 3, 0, 0, 0), none, none, some (.ireturn, 23, 0, 0, 0, 0, 0)]
def T_TD_bestRow : List (List (Option GE)) := [T_TD_bestRow_0]
def T_TD_bestStrapEffect_0 : List (Option GE) := [some (.aload_n 0, 1, 0, 0, 0, 0, 0), some (.getfield 19, 4, 10, 1, 1, 1, 0), none, none, some (.invokevirtual 253, 7, 74, 1, 0, 0, 0), none, none, some (.ifCond .eq 5, 10, 12, 0, 0, 0, 0), none, none, some (.iconst (-1), 11, 1, 1, 0, 0, 0), some (.ireturn, 12, 0, 0, 0, 0, 0), some (.aload_n 0, 13, 0, 0, 0, 0, 0), some (.getfield 19, 16, 10, 1, 1, 1, 0), none, none, some (.aload_n 0, 17, 0, 0, 0, 0, 0), some (.getfield 19, 20, 10, 1, 1, 1, 0), none, none, some (.getfield 256, 23, 8, 4, 0, 0, 0), none, none, some (.invokevirtual 274, 26, 75, 2, 0, 0, 2), none, none, some (.getfield 284, 29, 5, 1, 0, 0, 0), none, none, some (.ifCond .ne 5, 32, 34, 0, 0, 0, 0), none, none]
def T_TD_bestStrapEffect_1 : List (Option GE) := [some (.iconst 0, 33, 0, 0, 0, 0, 0), some (.ireturn, 34, 0, 0, 0, 0, 0), some (.aload_n 0, 35, 0, 0, 0, 0, 0), some (.getfield 58, 38, 10, 8, 1, 1, 0), none, none, some (.aload_n 0, 39, 0, 0, 0, 0, 0), some (.getfield 19, 42, 10, 1, 1, 1, 0), none, none, some (.iconst 1, 43, 1, 0, 0, 0, 0), some (.aload_n 0, 44, 0, 0, 0, 0, 0), some (.getfield 19, 47, 10, 1, 1, 1, 0), none, none, some (.getfield 256, 50, 8, 4, 0, 0, 0), none, none, some (.isub, 51, 0, 0, 0, 0, 0), some (.invokevirtual 274, 54, 75, 2, 0, 0, 2), none, none, some (.aload_n 0, 55, 0, 0, 0, 0, 0), some (.getfield 19, 58, 10, 1, 1, 1, 0), none, none, some (.getfield 122, 61, 8, 0, 1, 1, 0), none, none, some (.aload_n 0, 62, 0, 0, 0, 0, 0), some (.getfield 44, 65, 10, 6, 1, 1, 0), none]
def T_TD_bestStrapEffect_2 : List (Option GE) := [none, some (.invokevirtual 318, 68, 5, 4, 0, 0, 0), none, none, some (.ireturn, 69, 0, 0, 0, 0, 0)]
def T_TD_bestStrapEffect : List (List (Option GE)) := [T_TD_bestStrapEffect_0, T_TD_bestStrapEffect_1, T_TD_bestStrapEffect_2]
def T_TD_regionCount_0 : List (Option GE) := [some (.aload_n 0, 1, 0, 0, 0, 0, 0), some (.getfield 65, 4, 10, 9, 1, 1, 0), none, none, some (.aload_n 0, 5, 0, 0, 0, 0, 0), some (.getfield 19, 8, 10, 1, 1, 1, 0), none, none, some (.getfield 122, 11, 8, 0, 1, 1, 0), none, none, some (.invokevirtual 322, 14, 66, 2, 0, 0, 1), none, none, some (.aload_n 0, 15, 0, 0, 0, 0, 0), some (.getfield 65, 18, 10, 9, 1, 1, 0), none, none, some (.getfield 326, 21, 7, 0, 0, 0, 0), none, none, some (.ireturn, 22, 0, 0, 0, 0, 0)]
def T_TD_regionCount : List (List (Option GE)) := [T_TD_regionCount_0]
def T_TD_largestRegion_0 : List (Option GE) := [some (.aload_n 0, 1, 0, 0, 0, 0, 0), some (.getfield 65, 4, 10, 9, 1, 1, 0), none, none, some (.aload_n 0, 5, 0, 0, 0, 0, 0), some (.getfield 19, 8, 10, 1, 1, 1, 0), none, none, some (.getfield 122, 11, 8, 0, 1, 1, 0), none, none, some (.invokevirtual 322, 14, 66, 2, 0, 0, 1), none, none, some (.iconst 0, 15, 0, 0, 0, 0, 0), some (.istore_n 1, 16, 0, 0, 0, 0, 0), some (.iconst 0, 17, 0, 0, 0, 0, 0), some (.istore_n 2, 18, 0, 0, 0, 0, 0), some (.iload_n 2, 19, 0, 0, 0, 0, 0), some (.aload_n 0, 20, 0, 0, 0, 0, 0), some (.getfield 65, 23, 10, 9, 1, 1, 0), none, none, some (.getfield 326, 26, 7, 0, 0, 0, 0), none, none, some (.if_icmp .ge 22, 29, 48, 0, 0, 0, 0), none, none, some (.iload_n 1, 30, 0, 0, 0, 0, 0), some (.aload_n 0, 31, 0, 0, 0, 0, 0), some (.getfield 65, 34, 10, 9, 1, 1, 0)]
def T_TD_largestRegion_1 : List (Option GE) := [none, none, some (.iload_n 2, 35, 0, 0, 0, 0, 0), some (.invokevirtual 327, 38, 67, 2, 0, 0, 0), none, none, some (.invokestatic 330, 41, 0, 0, 0, 0, 21), none, none, some (.istore_n 1, 42, 0, 0, 0, 0, 0), some (.iinc 2 1, 45, 1, 0, 0, 0, 0), none, none, some (.goto (-27), 48, 18, 0, 0, 0, 0), none, none, some (.iload_n 1, 49, 0, 0, 0, 0, 0), some (.ireturn, 50, 0, 0, 0, 0, 0)]
def T_TD_largestRegion : List (List (Option GE)) := [T_TD_largestRegion_0, T_TD_largestRegion_1]
def T_TD_regionSize_0 : List (Option GE) := [some (.aload_n 0, 1, 0, 0, 0, 0, 0), some (.iload_n 1, 2, 0, 0, 0, 0, 0), some (.iload_n 2, 3, 0, 0, 0, 0, 0), some (.invokevirtual 216, 6, 155, 3, 1, 6, 11), none, none, some (.aload_n 0, 7, 0, 0, 0, 0, 0), some (.getfield 65, 10, 10, 9, 1, 1, 0), none, none, some (.aload_n 0, 11, 0, 0, 0, 0, 0), some (.getfield 19, 14, 10, 1, 1, 1, 0), none, none, some (.getfield 122, 17, 8, 0, 1, 1, 0), none, none, some (.invokevirtual 322, 20, 66, 2, 0, 0, 1), none, none, some (.aload_n 0, 21, 0, 0, 0, 0, 0), some (.getfield 65, 24, 10, 9, 1, 1, 0), none, none, some (.iload_n 1, 25, 0, 0, 0, 0, 0), some (.iload_n 2, 26, 0, 0, 0, 0, 0), some (.invokevirtual 335, 29, 68, 3, 0, 0, 0), none, none, some (.ireturn, 30, 0, 0, 0, 0, 0)]
def T_TD_regionSize : List (List (Option GE)) := [T_TD_regionSize_0]
def T_TD_isDead_0 : List (Option GE) := [some (.aload_n 0, 1, 0, 0, 0, 0, 0), some (.iload_n 1, 2, 0, 0, 0, 0, 0), some (.iload_n 2, 3, 0, 0, 0, 0, 0), some (.invokevirtual 216, 6, 155, 3, 1, 6, 11), none, none, some (.aload_n 0, 7, 0, 0, 0, 0, 0), some (.getfield 65, 10, 10, 9, 1, 1, 0), none, none, some (.aload_n 0, 11, 0, 0, 0, 0, 0), some (.getfield 19, 14, 10, 1, 1, 1, 0), none, none, some (.getfield 122, 17, 8, 0, 1, 1, 0), none, none, some (.invokevirtual 322, 20, 66, 2, 0, 0, 1), none, none, some (.aload_n 0, 21, 0, 0, 0, 0, 0), some (.getfield 65, 24, 10, 9, 1, 1, 0), none, none, some (.iload_n 1, 25, 0, 0, 0, 0, 0), some (.iload_n 2, 26, 0, 0, 0, 0, 0), some (.invokevirtual 335, 29, 68, 3, 0, 0, 0), none, none, some (.iconst 1, 30, 1, 0, 0, 0, 0), some (.if_icmp .ne 7, 33, 37, 0, 0, 0, 0), none]
def T_TD_isDead_1 : List (Option GE) := [none, some (.iconst 1, 34, 1, 0, 0, 0, 0), some (.goto 4, 37, 38, 0, 0, 0, 0), none, none, some (.iconst 0, 38, 0, 0, 0, 0, 0), some (.ireturn, 39, 1, 0, 0, 0, 0)]
def T_TD_isDead : List (List (Option GE)) := [T_TD_isDead_0, T_TD_isDead_1]
def T_TD_deadCells_0 : List (Option GE) := [some (.aload_n 0, 1, 0, 0, 0, 0, 0), some (.getfield 65, 4, 10, 9, 1, 1, 0), none, none, some (.aload_n 0, 5, 0, 0, 0, 0, 0), some (.getfield 19, 8, 10, 1, 1, 1, 0), none, none, some (.getfield 122, 11, 8, 0, 1, 1, 0), none, none, some (.invokevirtual 322, 14, 66, 2, 0, 0, 1), none, none, some (.iconst 0, 15, 0, 0, 0, 0, 0), some (.istore_n 1, 16, 0, 0, 0, 0, 0), some (.iconst 0, 17, 0, 0, 0, 0, 0), some (.istore_n 2, 18, 0, 0, 0, 0, 0), some (.iload_n 2, 19, 0, 0, 0, 0, 0), some (.aload_n 0, 20, 0, 0, 0, 0, 0), some (.getfield 65, 23, 10, 9, 1, 1, 0), none, none, some (.getfield 326, 26, 7, 0, 0, 0, 0), none, none, some (.if_icmp .ge 24, 29, 50, 0, 0, 0, 0), none, none, some (.aload_n 0, 30, 0, 0, 0, 0, 0), some (.getfield 65, 33, 10, 9, 1, 1, 0), none]
def T_TD_deadCells_1 : List (Option GE) := [none, some (.iload_n 2, 34, 0, 0, 0, 0, 0), some (.invokevirtual 327, 37, 67, 2, 0, 0, 0), none, none, some (.iconst 1, 38, 1, 0, 0, 0, 0), some (.if_icmp .ne 6, 41, 44, 0, 0, 0, 0), none, none, some (.iinc 1 1, 44, 1, 0, 0, 0, 0), none, none, some (.iinc 2 1, 47, 1, 0, 0, 0, 0), none, none, some (.goto (-29), 50, 18, 0, 0, 0, 0), none, none, some (.iload_n 1, 51, 0, 0, 0, 0, 0), some (.ireturn, 52, 0, 0, 0, 0, 0)]
def T_TD_deadCells : List (List (Option GE)) := [T_TD_deadCells_0, T_TD_deadCells_1]
def T_TD_inconsistencies_0 : List (Option GE) := [some (.iconst 0, 1, 0, 0, 0, 0, 0), some (.istore_n 1, 2, 0, 0, 0, 0, 0), some (.iconst 0, 3, 0, 0, 0, 0, 0), some (.istore_n 2, 4, 0, 0, 0, 0, 0), some (.iconst 0, 5, 0, 0, 0, 0, 0), some (.istore_n 3, 6, 0, 0, 0, 0, 0), some (.iconst 0, 7, 0, 0, 0, 0, 0), some (.istore 4, 9, 0, 0, 0, 0, 0), none, some (.iload 4, 11, 0, 0, 0, 0, 0), none, some (.aload_n 0, 12, 0, 0, 0, 0, 0), some (.getfield 19, 15, 10, 1, 1, 1, 0), none, none, some (.getfield 195, 18, 8, 1, 1, 1, 0), none, none, some (.getfield 199, 21, 4, 0, 0, 0, 0), none, none, some (.if_icmp .ge 116, 24, 137, 0, 0, 0, 0), none, none, some (.aload_n 0, 25, 0, 0, 0, 0, 0), some (.getfield 44, 28, 10, 6, 1, 1, 0), none, none, some (.aload_n 0, 29, 0, 0, 0, 0, 0), some (.getfield 19, 32, 10, 1, 1, 1, 0), none, none]
def T_TD_inconsistencies_1 : List (Option GE) := [some (.getfield 195, 35, 8, 1, 1, 1, 0), none, none, some (.iload 4, 37, 0, 0, 0, 0, 0), none, some (.invokevirtual 235, 40, 26, 2, 0, 0, 0), none, none, some (.aload_n 0, 41, 0, 0, 0, 0, 0), some (.getfield 19, 44, 10, 1, 1, 1, 0), none, none, some (.getfield 195, 47, 8, 1, 1, 1, 0), none, none, some (.iload 4, 49, 0, 0, 0, 0, 0), none, some (.invokevirtual 238, 52, 27, 2, 0, 0, 0), none, none, some (.invokevirtual 338, 55, 9, 3, 0, 0, 1), none, none, some (.aload_n 0, 56, 0, 0, 0, 0, 0), some (.getfield 44, 59, 10, 6, 1, 1, 0), none, none, some (.aload_n 0, 60, 0, 0, 0, 0, 0), some (.getfield 19, 63, 10, 1, 1, 1, 0), none, none, some (.getfield 195, 66, 8, 1, 1, 1, 0)]
def T_TD_inconsistencies_2 : List (Option GE) := [none, none, some (.iload 4, 68, 0, 0, 0, 0, 0), none, some (.invokevirtual 241, 71, 28, 2, 0, 0, 0), none, none, some (.aload_n 0, 72, 0, 0, 0, 0, 0), some (.getfield 19, 75, 10, 1, 1, 1, 0), none, none, some (.getfield 195, 78, 8, 1, 1, 1, 0), none, none, some (.iload 4, 80, 0, 0, 0, 0, 0), none, some (.invokevirtual 244, 83, 29, 2, 0, 0, 0), none, none, some (.invokevirtual 341, 86, 10, 3, 0, 0, 1), none, none, some (.iload_n 1, 87, 0, 0, 0, 0, 0), some (.aload_n 0, 88, 0, 0, 0, 0, 0), some (.getfield 19, 91, 10, 1, 1, 1, 0), none, none, some (.getfield 195, 94, 8, 1, 1, 1, 0), none, none, some (.iload 4, 96, 0, 0, 0, 0, 0), none]
def T_TD_inconsistencies_3 : List (Option GE) := [some (.invokevirtual 250, 99, 31, 2, 0, 0, 0), none, none, some (.iadd, 100, 0, 0, 0, 0, 0), some (.istore_n 1, 101, 0, 0, 0, 0, 0), some (.iload_n 2, 102, 0, 0, 0, 0, 0), some (.aload_n 0, 103, 0, 0, 0, 0, 0), some (.getfield 44, 106, 10, 6, 1, 1, 0), none, none, some (.getfield 344, 109, 2, 4, 0, 0, 0), none, none, some (.iadd, 110, 0, 0, 0, 0, 0), some (.istore_n 2, 111, 0, 0, 0, 0, 0), some (.aload_n 0, 112, 0, 0, 0, 0, 0), some (.getfield 19, 115, 10, 1, 1, 1, 0), none, none, some (.getfield 122, 118, 8, 0, 1, 1, 0), none, none, some (.aload_n 0, 119, 0, 0, 0, 0, 0), some (.getfield 44, 122, 10, 6, 1, 1, 0), none, none, some (.invokevirtual 347, 125, 101, 2, 0, 0, 0), none, none, some (.ifCond .eq 6, 128, 131, 0, 0, 0, 0), none, none]
def T_TD_inconsistencies_4 : List (Option GE) := [some (.iinc 3 1, 131, 1, 0, 0, 0, 0), none, none, some (.iinc 4 1, 134, 1, 0, 0, 0, 0), none, none, some (.goto (-125), 137, 9, 0, 0, 0, 0), none, none, some (.aload_n 0, 138, 0, 0, 0, 0, 0), some (.getfield 19, 141, 10, 1, 1, 1, 0), none, none, some (.getfield 259, 144, 8, 2, 1, 1, 0), none, none, some (.getfield 263, 147, 5, 0, 0, 0, 0), none, none, some (.aload_n 0, 148, 0, 0, 0, 0, 0), some (.getfield 19, 151, 10, 1, 1, 1, 0), none, none, some (.getfield 268, 154, 8, 3, 1, 1, 0), none, none, some (.getfield 263, 157, 5, 0, 0, 0, 0), none, none, some (.iadd, 158, 0, 0, 0, 0, 0), some (.istore 4, 160, 0, 0, 0, 0, 0), none]
def T_TD_inconsistencies_5 : List (Option GE) := [some (.aload_n 0, 161, 0, 0, 0, 0, 0), some (.getfield 19, 164, 10, 1, 1, 1, 0), none, none, some (.getfield 122, 167, 8, 0, 1, 1, 0), none, none, some (.invokevirtual 350, 170, 98, 1, 0, 0, 0), none, none, some (.istore 5, 172, 0, 0, 0, 0, 0), none, some (.iload_n 1, 173, 0, 0, 0, 0, 0), some (.iload 4, 175, 0, 0, 0, 0, 0), none, some (.isub, 176, 0, 0, 0, 0, 0), some (.invokestatic 353, 179, 0, 0, 0, 0, 22), none, none, some (.iload_n 3, 180, 0, 0, 0, 0, 0), some (.iadd, 181, 0, 0, 0, 0, 0), some (.iload 5, 183, 0, 0, 0, 0, 0), none, some (.iload_n 2, 184, 0, 0, 0, 0, 0), some (.isub, 185, 0, 0, 0, 0, 0), some (.invokestatic 353, 188, 0, 0, 0, 0, 22), none, none, some (.iadd, 189, 0, 0, 0, 0, 0), some (.ireturn, 190, 0, 0, 0, 0, 0)]
def T_TD_inconsistencies : List (List (Option GE)) := [T_TD_inconsistencies_0, T_TD_inconsistencies_1, T_TD_inconsistencies_2, T_TD_inconsistencies_3, T_TD_inconsistencies_4, T_TD_inconsistencies_5]
def T_TD_aimAt_0 : List (Option GE) := [some (.iload_n 1, 1, 0, 0, 0, 0, 0), some (.invokestatic 278, 4, 153, 1, 1, 6, 11), none, none, some (.iload_n 2, 5, 0, 0, 0, 0, 0), some (.ifCond .lt 8, 8, 13, 0, 0, 0, 0), none, none, some (.iload_n 2, 9, 0, 0, 0, 0, 0), some (.iconst 4, 10, 4, 0, 0, 0, 0), some (.if_icmp .lt 14, 13, 24, 0, 0, 0, 0), none, none, some (.new 113, 16, 0, 1, 362, 117, 1), none, none, none, none, none, none, none, none, none, none, some (.aload_n 0, 25, 0, 0, 0, 0, 0), some (.iload_n 3, 26, 0, 0, 0, 0, 0), some (.iload 4, 28, 0, 0, 0, 0, 0), none, some (.invokevirtual 216, 31, 155, 3, 1, 6, 11), none, none, some (.aload_n 0, 32, 0, 0, 0, 0, 0)]
def T_TD_aimAt_1 : List (Option GE) := [some (.getfield 44, 35, 10, 6, 1, 1, 0), none, none, some (.iload_n 1, 36, 0, 0, 0, 0, 0), some (.iload_n 2, 37, 0, 0, 0, 0, 0), some (.invokevirtual 338, 40, 9, 3, 0, 0, 1), none, none, some (.aload_n 0, 41, 0, 0, 0, 0, 0), some (.getfield 44, 44, 10, 6, 1, 1, 0), none, none, some (.iload_n 3, 45, 0, 0, 0, 0, 0), some (.iload 4, 47, 0, 0, 0, 0, 0), none, some (.invokevirtual 341, 50, 10, 3, 0, 0, 1), none, none, some (.return_, 51, 0, 0, 0, 0, 0)]
def T_TD_aimAt : List (List (Option GE)) := [T_TD_aimAt_0, T_TD_aimAt_1]
def T_TD_requireShape_0 : List (Option GE) := [some (.iload_n 0, 1, 0, 0, 0, 0, 0), some (.ifCond .lt 8, 4, 9, 0, 0, 0, 0), none, none, some (.iload_n 0, 5, 0, 0, 0, 0, 0), some (.iconst 5, 6, 5, 0, 0, 0, 0), some (.if_icmp .lt 14, 9, 20, 0, 0, 0, 0), none, none, some (.new 113, 12, 0, 1, 364, 117, 1), none, none, none, none, none, none, none, none, none, none, some (.return_, 21, 0, 0, 0, 0, 0)]
def T_TD_requireShape : List (List (Option GE)) := [T_TD_requireShape_0]
def T_TD_requirePlayer_0 : List (Option GE) := [some (.iload_n 0, 1, 0, 0, 0, 0, 0), some (.ifCond .lt 8, 4, 9, 0, 0, 0, 0), none, none, some (.iload_n 0, 5, 0, 0, 0, 0, 0), some (.iconst 2, 6, 2, 0, 0, 0, 0), some (.if_icmp .lt 14, 9, 20, 0, 0, 0, 0), none, none, some (.new 227, 12, 1, 1, 368, 231, 1), none, none, none, none, none, none, none, none, none, none, some (.return_, 21, 0, 0, 0, 0, 0)]
def T_TD_requirePlayer : List (List (Option GE)) := [T_TD_requirePlayer_0]
def T_TD_requireCell_0 : List (Option GE) := [some (.aload_n 0, 1, 0, 0, 0, 0, 0), some (.getfield 19, 4, 10, 1, 1, 1, 0), none, none, some (.getfield 122, 7, 8, 0, 1, 1, 0), none, none, some (.iload_n 1, 8, 0, 0, 0, 0, 0), some (.iload_n 2, 9, 0, 0, 0, 0, 0), some (.invokevirtual 370, 12, 87, 3, 0, 0, 0), none, none, some (.ifCond .ne 14, 15, 26, 0, 0, 0, 0), none, none, some (.new 227, 18, 1, 1, 374, 231, 1), none, none, none, none, none, none, none, none, none, none, some (.return_, 27, 0, 0, 0, 0, 0)]
def T_TD_requireCell : List (List (Option GE)) := [T_TD_requireCell_0]
def T_TD_requireEdge_0 : List (Option GE) := [some (.iload_n 3, 1, 0, 0, 0, 0, 0), some (.ifCond .lt 8, 4, 9, 0, 0, 0, 0), none, none, some (.iload_n 3, 5, 0, 0, 0, 0, 0), some (.iconst 2, 6, 2, 0, 0, 0, 0), some (.if_icmp .lt 14, 9, 20, 0, 0, 0, 0), none, none, some (.new 113, 12, 0, 1, 376, 117, 1), none, none, none, none, none, none, none, none, none, none, some (.aload_n 0, 21, 0, 0, 0, 0, 0), some (.getfield 19, 24, 10, 1, 1, 1, 0), none, none, some (.getfield 122, 27, 8, 0, 1, 1, 0), none, none, some (.iload_n 1, 28, 0, 0, 0, 0, 0), some (.iload_n 2, 29, 0, 0, 0, 0, 0), some (.iload_n 3, 30, 0, 0, 0, 0, 0), some (.invokevirtual 378, 33, 88, 4, 0, 0, 0), none]
def T_TD_requireEdge_1 : List (Option GE) := [none, some (.ifCond .ne 14, 36, 47, 0, 0, 0, 0), none, none, some (.new 227, 39, 1, 1, 381, 231, 1), none, none, none, none, none, none, none, none, none, none, some (.return_, 48, 0, 0, 0, 0, 0)]
def T_TD_requireEdge : List (List (Option GE)) := [T_TD_requireEdge_0, T_TD_requireEdge_1]
def T_TD_requirePiece_0 : List (Option GE) := [some (.iload_n 1, 1, 0, 0, 0, 0, 0), some (.ifCond .lt 17, 4, 18, 0, 0, 0, 0), none, none, some (.iload_n 1, 5, 0, 0, 0, 0, 0), some (.aload_n 0, 6, 0, 0, 0, 0, 0), some (.getfield 19, 9, 10, 1, 1, 1, 0), none, none, some (.getfield 195, 12, 8, 1, 1, 1, 0), none, none, some (.getfield 199, 15, 4, 0, 0, 0, 0), none, none, some (.if_icmp .lt 14, 18, 29, 0, 0, 0, 0), none, none, some (.new 227, 21, 1, 1, 383, 231, 1), none, none, none, none, none, none, none, none, none, none, some (.return_, 30, 0, 0, 0, 0, 0)]
def T_TD_requirePiece : List (List (Option GE)) := [T_TD_requirePiece_0]
def T_L_truncateInput_0 : List (Option GE) := [some (.aload_n 0, 1, 0, 0, 0, 0, 0), some (.iload_n 1, 2, 0, 0, 0, 0, 0), some (.invokevirtual 7, 5, 107, 2, 1, 6, 10), none, none, some (.ireturn, 6, 0, 0, 0, 0, 0), some (.astore_n 2, 7, 0, 0, 0, 0, 0), some (.bipush (-18), 9, 18, 1, 0, 0, 0), none, some (.ireturn, 10, 0, 0, 0, 0, 0)]
def T_L_truncateInput : List (List (Option GE)) := [T_L_truncateInput_0]
def Hd_L_truncateInput : GHd := [(0, 5, 7, 2, "java/lang/IllegalArgumentException")]
def T_L_place_0 : List (Option GE) := [some (.aload_n 0, 1, 0, 0, 0, 0, 0), some (.iload_n 1, 2, 0, 0, 0, 0, 0), some (.iload_n 2, 3, 0, 0, 0, 0, 0), some (.iload_n 3, 4, 0, 0, 0, 0, 0), some (.iload 4, 6, 0, 0, 0, 0, 0), none, some (.invokevirtual 15, 9, 109, 5, 4, 24, 10), none, none, some (.ireturn, 10, 0, 0, 0, 0, 0), some (.astore 5, 12, 0, 0, 0, 0, 0), none, some (.bipush (-18), 14, 18, 1, 0, 0, 0), none, some (.ireturn, 15, 0, 0, 0, 0, 0), some (.astore 5, 17, 0, 0, 0, 0, 0), none, some (.bipush (-17), 19, 17, 1, 0, 0, 0), none, some (.ireturn, 20, 0, 0, 0, 0, 0), some (.astore 5, 22, 0, 0, 0, 0, 0), none, some (.bipush (-19), 24, 19, 1, 0, 0, 0), none, some (.ireturn, 25, 0, 0, 0, 0, 0)]
def T_L_place : List (List (Option GE)) := [T_L_place_0]
def Hd_L_place : GHd := [(0, 9, 12, 5, "java/lang/IllegalArgumentException"), (0, 9, 17, 5, "java/lang/IndexOutOfBoundsException"), (0, 9, 22, 5, "java/lang/IllegalStateException")]
def T_L_fastenStrap_0 : List (Option GE) := [some (.aload_n 0, 1, 0, 0, 0, 0, 0), some (.iload_n 1, 2, 0, 0, 0, 0, 0), some (.iload_n 2, 3, 0, 0, 0, 0, 0), some (.iload_n 3, 4, 0, 0, 0, 0, 0), some (.invokevirtual 23, 7, 110, 4, 3, 18, 10), none, none, some (.ireturn, 8, 0, 0, 0, 0, 0), some (.astore 4, 10, 0, 0, 0, 0, 0), none, some (.bipush (-18), 12, 18, 1, 0, 0, 0), none, some (.ireturn, 13, 0, 0, 0, 0, 0), some (.astore 4, 15, 0, 0, 0, 0, 0), none, some (.bipush (-17), 17, 17, 1, 0, 0, 0), none, some (.ireturn, 18, 0, 0, 0, 0, 0), some (.astore 4, 20, 0, 0, 0, 0, 0), none, some (.bipush (-19), 22, 19, 1, 0, 0, 0), none, some (.ireturn, 23, 0, 0, 0, 0, 0)]
def T_L_fastenStrap : List (List (Option GE)) := [T_L_fastenStrap_0]
def Hd_L_fastenStrap : GHd := [(0, 7, 10, 4, "java/lang/IllegalArgumentException"), (0, 7, 15, 4, "java/lang/IndexOutOfBoundsException"), (0, 7, 20, 4, "java/lang/IllegalStateException")]
def T_L_pass_0 : List (Option GE) := [some (.aload_n 0, 1, 0, 0, 0, 0, 0), some (.invokevirtual 27, 4, 111, 1, 1, 6, 10), none, none, some (.ireturn, 5, 0, 0, 0, 0, 0), some (.astore_n 1, 6, 0, 0, 0, 0, 0), some (.bipush (-19), 8, 19, 1, 0, 0, 0), none, some (.ireturn, 9, 0, 0, 0, 0, 0)]
def T_L_pass : List (List (Option GE)) := [T_L_pass_0]
def Hd_L_pass : GHd := [(0, 4, 6, 1, "java/lang/IllegalStateException")]
def T_L_undo_0 : List (Option GE) := [some (.aload_n 0, 1, 0, 0, 0, 0, 0), some (.invokevirtual 31, 4, 112, 1, 1, 6, 10), none, none, some (.ireturn, 5, 0, 0, 0, 0, 0), some (.astore_n 1, 6, 0, 0, 0, 0, 0), some (.bipush (-19), 8, 19, 1, 0, 0, 0), none, some (.ireturn, 9, 0, 0, 0, 0, 0)]
def T_L_undo : List (List (Option GE)) := [T_L_undo_0]
def Hd_L_undo : GHd := [(0, 4, 6, 1, "java/lang/IllegalStateException")]
def T_L_isBlocked_0 : List (Option GE) := [some (.aload_n 0, 1, 0, 0, 0, 0, 0), some (.iload_n 1, 2, 0, 0, 0, 0, 0), some (.iload_n 2, 3, 0, 0, 0, 0, 0), some (.invokevirtual 34, 6, 120, 3, 1, 6, 10), none, none, some (.ifCond .eq 7, 9, 13, 0, 0, 0, 0), none, none, some (.iconst 1, 10, 1, 0, 0, 0, 0), some (.goto 4, 13, 14, 0, 0, 0, 0), none, none, some (.iconst 0, 14, 0, 0, 0, 0, 0), some (.ireturn, 15, 0, 0, 0, 0, 0), some (.astore_n 3, 16, 0, 0, 0, 0, 0), some (.bipush (-17), 18, 17, 1, 0, 0, 0), none, some (.ireturn, 19, 0, 0, 0, 0, 0)]
def T_L_isBlocked : List (List (Option GE)) := [T_L_isBlocked_0]
def Hd_L_isBlocked : GHd := [(0, 14, 16, 3, "java/lang/IndexOutOfBoundsException")]
def T_L_pieceAt_0 : List (Option GE) := [some (.aload_n 0, 1, 0, 0, 0, 0, 0), some (.iload_n 1, 2, 0, 0, 0, 0, 0), some (.iload_n 2, 3, 0, 0, 0, 0, 0), some (.invokevirtual 38, 6, 121, 3, 1, 6, 10), none, none, some (.ireturn, 7, 0, 0, 0, 0, 0), some (.astore_n 3, 8, 0, 0, 0, 0, 0), some (.bipush (-17), 10, 17, 1, 0, 0, 0), none, some (.ireturn, 11, 0, 0, 0, 0, 0)]
def T_L_pieceAt : List (List (Option GE)) := [T_L_pieceAt_0]
def Hd_L_pieceAt : GHd := [(0, 6, 8, 3, "java/lang/IndexOutOfBoundsException")]
def T_L_hasStrap_0 : List (Option GE) := [some (.aload_n 0, 1, 0, 0, 0, 0, 0), some (.iload_n 1, 2, 0, 0, 0, 0, 0), some (.iload_n 2, 3, 0, 0, 0, 0, 0), some (.iload_n 3, 4, 0, 0, 0, 0, 0), some (.invokevirtual 42, 7, 122, 4, 2, 12, 10), none, none, some (.ifCond .eq 7, 10, 14, 0, 0, 0, 0), none, none, some (.iconst 1, 11, 1, 0, 0, 0, 0), some (.goto 4, 14, 15, 0, 0, 0, 0), none, none, some (.iconst 0, 15, 0, 0, 0, 0, 0), some (.ireturn, 16, 0, 0, 0, 0, 0), some (.astore 4, 18, 0, 0, 0, 0, 0), none, some (.bipush (-18), 20, 18, 1, 0, 0, 0), none, some (.ireturn, 21, 0, 0, 0, 0, 0), some (.astore 4, 23, 0, 0, 0, 0, 0), none, some (.bipush (-17), 25, 17, 1, 0, 0, 0), none, some (.ireturn, 26, 0, 0, 0, 0, 0)]
def T_L_hasStrap : List (List (Option GE)) := [T_L_hasStrap_0]
def Hd_L_hasStrap : GHd := [(0, 15, 18, 4, "java/lang/IllegalArgumentException"), (0, 15, 23, 4, "java/lang/IndexOutOfBoundsException")]
def T_L_emptyInRow_0 : List (Option GE) := [some (.aload_n 0, 1, 0, 0, 0, 0, 0), some (.iload_n 1, 2, 0, 0, 0, 0, 0), some (.invokevirtual 46, 5, 123, 2, 1, 6, 10), none, none, some (.ireturn, 6, 0, 0, 0, 0, 0), some (.astore_n 2, 7, 0, 0, 0, 0, 0), some (.bipush (-17), 9, 17, 1, 0, 0, 0), none, some (.ireturn, 10, 0, 0, 0, 0, 0)]
def T_L_emptyInRow : List (List (Option GE)) := [T_L_emptyInRow_0]
def Hd_L_emptyInRow : GHd := [(0, 5, 7, 2, "java/lang/IndexOutOfBoundsException")]
def T_L_pieceShape_0 : List (Option GE) := [some (.aload_n 0, 1, 0, 0, 0, 0, 0), some (.iload_n 1, 2, 0, 0, 0, 0, 0), some (.invokevirtual 49, 5, 124, 2, 1, 6, 10), none, none, some (.ireturn, 6, 0, 0, 0, 0, 0), some (.astore_n 2, 7, 0, 0, 0, 0, 0), some (.bipush (-17), 9, 17, 1, 0, 0, 0), none, some (.ireturn, 10, 0, 0, 0, 0, 0)]
def T_L_pieceShape : List (List (Option GE)) := [T_L_pieceShape_0]
def Hd_L_pieceShape : GHd := [(0, 5, 7, 2, "java/lang/IndexOutOfBoundsException")]
def T_L_pieceRotation_0 : List (Option GE) := [some (.aload_n 0, 1, 0, 0, 0, 0, 0), some (.iload_n 1, 2, 0, 0, 0, 0, 0), some (.invokevirtual 52, 5, 125, 2, 1, 6, 10), none, none, some (.ireturn, 6, 0, 0, 0, 0, 0), some (.astore_n 2, 7, 0, 0, 0, 0, 0), some (.bipush (-17), 9, 17, 1, 0, 0, 0), none, some (.ireturn, 10, 0, 0, 0, 0, 0)]
def T_L_pieceRotation : List (List (Option GE)) := [T_L_pieceRotation_0]
def Hd_L_pieceRotation : GHd := [(0, 5, 7, 2, "java/lang/IndexOutOfBoundsException")]
def T_L_pieceColumn_0 : List (Option GE) := [some (.aload_n 0, 1, 0, 0, 0, 0, 0), some (.iload_n 1, 2, 0, 0, 0, 0, 0), some (.invokevirtual 55, 5, 126, 2, 1, 6, 10), none, none, some (.ireturn, 6, 0, 0, 0, 0, 0), some (.astore_n 2, 7, 0, 0, 0, 0, 0), some (.bipush (-17), 9, 17, 1, 0, 0, 0), none, some (.ireturn, 10, 0, 0, 0, 0, 0)]
def T_L_pieceColumn : List (List (Option GE)) := [T_L_pieceColumn_0]
def Hd_L_pieceColumn : GHd := [(0, 5, 7, 2, "java/lang/IndexOutOfBoundsException")]
def T_L_pieceRow_0 : List (Option GE) := [some (.aload_n 0, 1, 0, 0, 0, 0, 0), some (.iload_n 1, 2, 0, 0, 0, 0, 0), some (.invokevirtual 58, 5, 127, 2, 1, 6, 10), none, none, some (.ireturn, 6, 0, 0, 0, 0, 0), some (.astore_n 2, 7, 0, 0, 0, 0, 0), some (.bipush (-17), 9, 17, 1, 0, 0, 0), none, some (.ireturn, 10, 0, 0, 0, 0, 0)]
def T_L_pieceRow : List (List (Option GE)) := [T_L_pieceRow_0]
def Hd_L_pieceRow : GHd := [(0, 5, 7, 2, "java/lang/IndexOutOfBoundsException")]
def T_L_pieceOwner_0 : List (Option GE) := [some (.aload_n 0, 1, 0, 0, 0, 0, 0), some (.iload_n 1, 2, 0, 0, 0, 0, 0), some (.invokevirtual 61, 5, 128, 2, 1, 6, 10), none, none, some (.ireturn, 6, 0, 0, 0, 0, 0), some (.astore_n 2, 7, 0, 0, 0, 0, 0), some (.bipush (-17), 9, 17, 1, 0, 0, 0), none, some (.ireturn, 10, 0, 0, 0, 0, 0)]
def T_L_pieceOwner : List (List (Option GE)) := [T_L_pieceOwner_0]
def Hd_L_pieceOwner : GHd := [(0, 5, 7, 2, "java/lang/IndexOutOfBoundsException")]
def T_L_piecePoints_0 : List (Option GE) := [some (.aload_n 0, 1, 0, 0, 0, 0, 0), some (.iload_n 1, 2, 0, 0, 0, 0, 0), some (.invokevirtual 64, 5, 129, 2, 1, 6, 10), none, none, some (.ireturn, 6, 0, 0, 0, 0, 0), some (.astore_n 2, 7, 0, 0, 0, 0, 0), some (.bipush (-17), 9, 17, 1, 0, 0, 0), none, some (.ireturn, 10, 0, 0, 0, 0, 0)]
def T_L_piecePoints : List (List (Option GE)) := [T_L_piecePoints_0]
def Hd_L_piecePoints : GHd := [(0, 5, 7, 2, "java/lang/IndexOutOfBoundsException")]
def T_L_score_0 : List (Option GE) := [some (.aload_n 0, 1, 0, 0, 0, 0, 0), some (.iload_n 1, 2, 0, 0, 0, 0, 0), some (.invokevirtual 67, 5, 133, 2, 1, 6, 10), none, none, some (.ireturn, 6, 0, 0, 0, 0, 0), some (.astore_n 2, 7, 0, 0, 0, 0, 0), some (.bipush (-17), 9, 17, 1, 0, 0, 0), none, some (.ireturn, 10, 0, 0, 0, 0, 0)]
def T_L_score : List (List (Option GE)) := [T_L_score_0]
def Hd_L_score : GHd := [(0, 5, 7, 2, "java/lang/IndexOutOfBoundsException")]
def T_L_supply_0 : List (Option GE) := [some (.aload_n 0, 1, 0, 0, 0, 0, 0), some (.iload_n 1, 2, 0, 0, 0, 0, 0), some (.iload_n 2, 3, 0, 0, 0, 0, 0), some (.invokevirtual 70, 6, 134, 3, 2, 12, 10), none, none, some (.ireturn, 7, 0, 0, 0, 0, 0), some (.astore_n 3, 8, 0, 0, 0, 0, 0), some (.bipush (-17), 10, 17, 1, 0, 0, 0), none, some (.ireturn, 11, 0, 0, 0, 0, 0), some (.astore_n 3, 12, 0, 0, 0, 0, 0), some (.bipush (-18), 14, 18, 1, 0, 0, 0), none, some (.ireturn, 15, 0, 0, 0, 0, 0)]
def T_L_supply : List (List (Option GE)) := [T_L_supply_0]
def Hd_L_supply : GHd := [(0, 6, 8, 3, "java/lang/IndexOutOfBoundsException"), (0, 6, 12, 3, "java/lang/IllegalArgumentException")]
def T_L_strapsLeft_0 : List (Option GE) := [some (.aload_n 0, 1, 0, 0, 0, 0, 0), some (.iload_n 1, 2, 0, 0, 0, 0, 0), some (.invokevirtual 73, 5, 135, 2, 1, 6, 10), none, none, some (.ireturn, 6, 0, 0, 0, 0, 0), some (.astore_n 2, 7, 0, 0, 0, 0, 0), some (.bipush (-17), 9, 17, 1, 0, 0, 0), none, some (.ireturn, 10, 0, 0, 0, 0, 0)]
def T_L_strapsLeft : List (List (Option GE)) := [T_L_strapsLeft_0]
def Hd_L_strapsLeft : GHd := [(0, 5, 7, 2, "java/lang/IndexOutOfBoundsException")]
def T_L_fits_0 : List (Option GE) := [some (.aload_n 0, 1, 0, 0, 0, 0, 0), some (.iload_n 1, 2, 0, 0, 0, 0, 0), some (.iload_n 2, 3, 0, 0, 0, 0, 0), some (.iload_n 3, 4, 0, 0, 0, 0, 0), some (.iload 4, 6, 0, 0, 0, 0, 0), none, some (.invokevirtual 76, 9, 136, 5, 3, 18, 10), none, none, some (.ifCond .eq 7, 12, 16, 0, 0, 0, 0), none, none, some (.iconst 1, 13, 1, 0, 0, 0, 0), some (.goto 4, 16, 17, 0, 0, 0, 0), none, none, some (.iconst 0, 17, 0, 0, 0, 0, 0), some (.ireturn, 18, 0, 0, 0, 0, 0), some (.astore 5, 20, 0, 0, 0, 0, 0), none, some (.bipush (-18), 22, 18, 1, 0, 0, 0), none, some (.ireturn, 23, 0, 0, 0, 0, 0), some (.astore 5, 25, 0, 0, 0, 0, 0), none, some (.bipush (-17), 27, 17, 1, 0, 0, 0), none, some (.ireturn, 28, 0, 0, 0, 0, 0)]
def T_L_fits : List (List (Option GE)) := [T_L_fits_0]
def Hd_L_fits : GHd := [(0, 17, 20, 5, "java/lang/IllegalArgumentException"), (0, 17, 25, 5, "java/lang/IndexOutOfBoundsException")]
def T_L_misfitReason_0 : List (Option GE) := [some (.aload_n 0, 1, 0, 0, 0, 0, 0), some (.iload_n 1, 2, 0, 0, 0, 0, 0), some (.iload_n 2, 3, 0, 0, 0, 0, 0), some (.iload_n 3, 4, 0, 0, 0, 0, 0), some (.iload 4, 6, 0, 0, 0, 0, 0), none, some (.invokevirtual 80, 9, 137, 5, 3, 18, 10), none, none, some (.ireturn, 10, 0, 0, 0, 0, 0), some (.astore 5, 12, 0, 0, 0, 0, 0), none, some (.bipush (-18), 14, 18, 1, 0, 0, 0), none, some (.ireturn, 15, 0, 0, 0, 0, 0), some (.astore 5, 17, 0, 0, 0, 0, 0), none, some (.bipush (-17), 19, 17, 1, 0, 0, 0), none, some (.ireturn, 20, 0, 0, 0, 0, 0)]
def T_L_misfitReason : List (List (Option GE)) := [T_L_misfitReason_0]
def Hd_L_misfitReason : GHd := [(0, 9, 12, 5, "java/lang/IllegalArgumentException"), (0, 9, 17, 5, "java/lang/IndexOutOfBoundsException")]
def T_L_pointsFor_0 : List (Option GE) := [some (.aload_n 0, 1, 0, 0, 0, 0, 0), some (.iload_n 1, 2, 0, 0, 0, 0, 0), some (.iload_n 2, 3, 0, 0, 0, 0, 0), some (.iload_n 3, 4, 0, 0, 0, 0, 0), some (.iload 4, 6, 0, 0, 0, 0, 0), none, some (.invokevirtual 83, 9, 138, 5, 3, 18, 10), none, none, some (.ireturn, 10, 0, 0, 0, 0, 0), some (.astore 5, 12, 0, 0, 0, 0, 0), none, some (.bipush (-18), 14, 18, 1, 0, 0, 0), none, some (.ireturn, 15, 0, 0, 0, 0, 0), some (.astore 5, 17, 0, 0, 0, 0, 0), none, some (.bipush (-17), 19, 17, 1, 0, 0, 0), none, some (.ireturn, 20, 0, 0, 0, 0, 0)]
def T_L_pointsFor : List (List (Option GE)) := [T_L_pointsFor_0]
def Hd_L_pointsFor : GHd := [(0, 9, 12, 5, "java/lang/IllegalArgumentException"), (0, 9, 17, 5, "java/lang/IndexOutOfBoundsException")]
def T_L_mobility_0 : List (Option GE) := [some (.aload_n 0, 1, 0, 0, 0, 0, 0), some (.iload_n 1, 2, 0, 0, 0, 0, 0), some (.invokevirtual 86, 5, 139, 2, 1, 6, 10), none, none, some (.ireturn, 6, 0, 0, 0, 0, 0), some (.astore_n 2, 7, 0, 0, 0, 0, 0), some (.bipush (-17), 9, 17, 1, 0, 0, 0), none, some (.ireturn, 10, 0, 0, 0, 0, 0)]
def T_L_mobility : List (List (Option GE)) := [T_L_mobility_0]
def Hd_L_mobility : GHd := [(0, 5, 7, 2, "java/lang/IndexOutOfBoundsException")]
def T_L_mobilityAfter_0 : List (Option GE) := [some (.aload_n 0, 1, 0, 0, 0, 0, 0), some (.iload_n 1, 2, 0, 0, 0, 0, 0), some (.iload_n 2, 3, 0, 0, 0, 0, 0), some (.iload_n 3, 4, 0, 0, 0, 0, 0), some (.iload 4, 6, 0, 0, 0, 0, 0), none, some (.iload 5, 8, 0, 0, 0, 0, 0), none, some (.invokevirtual 89, 11, 140, 6, 4, 24, 10), none, none, some (.ireturn, 12, 0, 0, 0, 0, 0), some (.astore 6, 14, 0, 0, 0, 0, 0), none, some (.bipush (-18), 16, 18, 1, 0, 0, 0), none, some (.ireturn, 17, 0, 0, 0, 0, 0), some (.astore 6, 19, 0, 0, 0, 0, 0), none, some (.bipush (-17), 21, 17, 1, 0, 0, 0), none, some (.ireturn, 22, 0, 0, 0, 0, 0)]
def T_L_mobilityAfter : List (List (Option GE)) := [T_L_mobilityAfter_0]
def Hd_L_mobilityAfter : GHd := [(0, 11, 14, 6, "java/lang/IllegalArgumentException"), (0, 11, 19, 6, "java/lang/IndexOutOfBoundsException")]
def T_L_regionSize_0 : List (Option GE) := [some (.aload_n 0, 1, 0, 0, 0, 0, 0), some (.iload_n 1, 2, 0, 0, 0, 0, 0), some (.iload_n 2, 3, 0, 0, 0, 0, 0), some (.invokevirtual 93, 6, 148, 3, 1, 6, 10), none, none, some (.ireturn, 7, 0, 0, 0, 0, 0), some (.astore_n 3, 8, 0, 0, 0, 0, 0), some (.bipush (-17), 10, 17, 1, 0, 0, 0), none, some (.ireturn, 11, 0, 0, 0, 0, 0)]
def T_L_regionSize : List (List (Option GE)) := [T_L_regionSize_0]
def Hd_L_regionSize : GHd := [(0, 6, 8, 3, "java/lang/IndexOutOfBoundsException")]
def T_L_isDead_0 : List (Option GE) := [some (.aload_n 0, 1, 0, 0, 0, 0, 0), some (.iload_n 1, 2, 0, 0, 0, 0, 0), some (.iload_n 2, 3, 0, 0, 0, 0, 0), some (.invokevirtual 96, 6, 149, 3, 1, 6, 10), none, none, some (.ifCond .eq 7, 9, 13, 0, 0, 0, 0), none, none, some (.iconst 1, 10, 1, 0, 0, 0, 0), some (.goto 4, 13, 14, 0, 0, 0, 0), none, none, some (.iconst 0, 14, 0, 0, 0, 0, 0), some (.ireturn, 15, 0, 0, 0, 0, 0), some (.astore_n 3, 16, 0, 0, 0, 0, 0), some (.bipush (-17), 18, 17, 1, 0, 0, 0), none, some (.ireturn, 19, 0, 0, 0, 0, 0)]
def T_L_isDead : List (List (Option GE)) := [T_L_isDead_0]
def Hd_L_isDead : GHd := [(0, 14, 16, 3, "java/lang/IndexOutOfBoundsException")]
def T_L_word_0 : List (Option GE) := [some (.iconst 0, 1, 0, 0, 0, 0, 0), some (.istore_n 2, 2, 0, 0, 0, 0, 0), some (.iload_n 1, 3, 0, 0, 0, 0, 0), some (.istore_n 3, 4, 0, 0, 0, 0, 0), some (.iload_n 3, 5, 0, 0, 0, 0, 0), some (.iload_n 1, 6, 0, 0, 0, 0, 0), some (.iconst 4, 7, 4, 0, 0, 0, 0), some (.iadd, 8, 0, 0, 0, 0, 0), some (.if_icmp .ge 32, 11, 40, 0, 0, 0, 0), none, none, some (.iload_n 2, 12, 0, 0, 0, 0, 0), some (.bipush 8, 14, 8, 0, 0, 0, 0), none, some (.ishl, 15, 0, 0, 0, 0, 0), some (.iload_n 3, 16, 0, 0, 0, 0, 0), some (.aload_n 0, 17, 0, 0, 0, 0, 0), some (.invokevirtual 99, 20, 0, 0, 0, 0, 27), none, none, some (.if_icmp .ge 11, 23, 31, 0, 0, 0, 0), none, none, some (.aload_n 0, 24, 0, 0, 0, 0, 0), some (.iload_n 3, 25, 0, 0, 0, 0, 0), some (.invokevirtual 104, 28, 0, 0, 0, 0, 28), none, none, some (.goto 4, 31, 32, 0, 0, 0, 0), none, none, some (.iconst 0, 32, 0, 0, 0, 0, 0)]
def T_L_word_1 : List (Option GE) := [some (.ior, 33, 0, 0, 0, 0, 0), some (.istore_n 2, 34, 0, 0, 0, 0, 0), some (.iinc 3 1, 37, 1, 0, 0, 0, 0), none, none, some (.goto (-33), 40, 4, 0, 0, 0, 0), none, none, some (.iload_n 2, 41, 0, 0, 0, 0, 0), some (.ireturn, 42, 0, 0, 0, 0, 0)]
def T_L_word : List (List (Option GE)) := [T_L_word_0, T_L_word_1]
def T_L_write_0 : List (Option GE) := [some (.aload_n 0, 1, 0, 0, 0, 0, 0), some (.iconst 0, 2, 0, 0, 0, 0, 0), some (.invokestatic 108, 5, 158, 2, 1, 6, 0), none, none, some (.ifCond .eq 5, 8, 10, 0, 0, 0, 0), none, none, some (.iconst 0, 9, 0, 0, 0, 0, 0), some (.ireturn, 10, 1, 0, 0, 0, 0), some (.iconst 0, 11, 0, 0, 0, 0, 0), some (.istore_n 2, 12, 0, 0, 0, 0, 0), some (.iload_n 2, 13, 0, 0, 0, 0, 0), some (.aload_n 1, 14, 0, 0, 0, 0, 0), some (.invokevirtual 99, 17, 0, 0, 0, 0, 27), none, none, some (.if_icmp .ge 58, 20, 75, 0, 0, 0, 0), none, none, some (.aload_n 0, 21, 0, 0, 0, 0, 0), some (.aload_n 1, 22, 0, 0, 0, 0, 0), some (.iload_n 2, 23, 0, 0, 0, 0, 0), some (.invokestatic 113, 26, 183, 2, 0, 0, 0), none, none, some (.aload_n 1, 27, 0, 0, 0, 0, 0), some (.iload_n 2, 28, 0, 0, 0, 0, 0), some (.iconst 4, 29, 4, 0, 0, 0, 0), some (.iadd, 30, 0, 0, 0, 0, 0), some (.invokestatic 113, 33, 183, 2, 0, 0, 0), none]
def T_L_write_1 : List (Option GE) := [none, some (.aload_n 1, 34, 0, 0, 0, 0, 0), some (.iload_n 2, 35, 0, 0, 0, 0, 0), some (.bipush 8, 37, 8, 0, 0, 0, 0), none, some (.iadd, 38, 0, 0, 0, 0, 0), some (.invokestatic 113, 41, 183, 2, 0, 0, 0), none, none, some (.aload_n 1, 42, 0, 0, 0, 0, 0), some (.iload_n 2, 43, 0, 0, 0, 0, 0), some (.bipush 12, 45, 12, 0, 0, 0, 0), none, some (.iadd, 46, 0, 0, 0, 0, 0), some (.invokestatic 113, 49, 183, 2, 0, 0, 0), none, none, some (.aload_n 1, 50, 0, 0, 0, 0, 0), some (.iload_n 2, 51, 0, 0, 0, 0, 0), some (.bipush 16, 53, 16, 0, 0, 0, 0), none, some (.iadd, 54, 0, 0, 0, 0, 0), some (.invokestatic 113, 57, 183, 2, 0, 0, 0), none, none, some (.invokevirtual 117, 60, 106, 6, 0, 0, 0), none, none, some (.iload_n 2, 61, 0, 0, 0, 0, 0), some (.bipush 20, 63, 20, 0, 0, 0, 0), none, some (.iadd, 64, 0, 0, 0, 0, 0)]
def T_L_write_2 : List (Option GE) := [some (.if_icmp .eq 5, 67, 69, 0, 0, 0, 0), none, none, some (.iconst 0, 68, 0, 0, 0, 0, 0), some (.ireturn, 69, 1, 0, 0, 0, 0), some (.iinc 2 20, 72, 20, 0, 0, 0, 0), none, none, some (.goto (-60), 75, 12, 0, 0, 0, 0), none, none, some (.aload_n 0, 76, 0, 0, 0, 0, 0), some (.aload_n 1, 77, 0, 0, 0, 0, 0), some (.invokevirtual 99, 80, 0, 0, 0, 0, 27), none, none, some (.invokestatic 108, 83, 158, 2, 1, 6, 0), none, none, some (.aload_n 1, 84, 0, 0, 0, 0, 0), some (.invokevirtual 99, 87, 0, 0, 0, 0, 27), none, none, some (.if_icmp .ne 7, 90, 94, 0, 0, 0, 0), none, none, some (.iconst 1, 91, 1, 0, 0, 0, 0), some (.goto 4, 94, 95, 0, 0, 0, 0), none, none, some (.iconst 0, 95, 0, 0, 0, 0, 0), some (.ireturn, 96, 1, 0, 0, 0, 0)]
def T_L_write : List (List (Option GE)) := [T_L_write_0, T_L_write_1, T_L_write_2]
def T_L_draw_0 : List (Option GE) := [some (.aload_n 0, 1, 0, 0, 0, 0, 0), some (.iconst 0, 2, 0, 0, 0, 0, 0), some (.aload_n 0, 3, 0, 0, 0, 0, 0), some (.iconst 0, 4, 0, 0, 0, 0, 0), some (.iaload, 5, 0, 0, 0, 0, 0), some (.ldc 120, 7, 1103515245, 0, 0, 0, 0), none, some (.imul, 8, 0, 0, 0, 0, 0), some (.sipush 12345, 11, 12345, 0, 0, 0, 0), none, none, some (.iadd, 12, 0, 0, 0, 0, 0), some (.iastore, 13, 0, 0, 0, 0, 0), some (.aload_n 0, 14, 0, 0, 0, 0, 0), some (.iconst 0, 15, 0, 0, 0, 0, 0), some (.iaload, 16, 0, 0, 0, 0, 0), some (.bipush 8, 18, 8, 0, 0, 0, 0), none, some (.iushr, 19, 0, 0, 0, 0, 0), some (.iload_n 1, 20, 0, 0, 0, 0, 0), some (.irem, 21, 0, 0, 0, 0, 0), some (.ireturn, 22, 0, 0, 0, 0, 0)]
def T_L_draw : List (List (Option GE)) := [T_L_draw_0]
def T_L_isSound_0 : List (Option GE) := [some (.iconst 0, 1, 0, 0, 0, 0, 0), some (.istore_n 1, 2, 0, 0, 0, 0, 0), some (.iconst 0, 3, 0, 0, 0, 0, 0), some (.istore_n 2, 4, 0, 0, 0, 0, 0), some (.iconst 0, 5, 0, 0, 0, 0, 0), some (.istore_n 3, 6, 0, 0, 0, 0, 0), some (.iconst 0, 7, 0, 0, 0, 0, 0), some (.istore 4, 9, 0, 0, 0, 0, 0), none, some (.iconst 0, 10, 0, 0, 0, 0, 0), some (.istore 5, 12, 0, 0, 0, 0, 0), none, some (.iconst 0, 13, 0, 0, 0, 0, 0), some (.istore 6, 15, 0, 0, 0, 0, 0), none, some (.iload 6, 17, 0, 0, 0, 0, 0), none, some (.aload_n 0, 18, 0, 0, 0, 0, 0), some (.invokevirtual 121, 21, 114, 1, 0, 0, 0), none, none, some (.if_icmp .ge 299, 24, 320, 0, 0, 0, 0), none, none, some (.iconst 0, 25, 0, 0, 0, 0, 0), some (.istore 7, 27, 0, 0, 0, 0, 0), none, some (.iconst 0, 28, 0, 0, 0, 0, 0), some (.istore 8, 30, 0, 0, 0, 0, 0), none, some (.iload 8, 32, 0, 0, 0, 0, 0), none]
def T_L_isSound_1 : List (Option GE) := [some (.aload_n 0, 33, 0, 0, 0, 0, 0), some (.invokevirtual 124, 36, 113, 1, 0, 0, 0), none, none, some (.if_icmp .ge 252, 39, 288, 0, 0, 0, 0), none, none, some (.aload_n 0, 40, 0, 0, 0, 0, 0), some (.iload 8, 42, 0, 0, 0, 0, 0), none, some (.iload 6, 44, 0, 0, 0, 0, 0), none, some (.invokestatic 127, 47, 164, 3, 1, 6, 0), none, none, some (.istore 9, 49, 0, 0, 0, 0, 0), none, some (.aload_n 0, 50, 0, 0, 0, 0, 0), some (.iload 8, 52, 0, 0, 0, 0, 0), none, some (.iload 6, 54, 0, 0, 0, 0, 0), none, some (.invokestatic 130, 57, 163, 3, 1, 6, 0), none, none, some (.iconst 1, 58, 1, 0, 0, 0, 0), some (.if_icmp .ne 7, 61, 65, 0, 0, 0, 0), none, none, some (.iconst 1, 62, 1, 0, 0, 0, 0), some (.goto 4, 65, 66, 0, 0, 0, 0), none]
def T_L_isSound_2 : List (Option GE) := [none, some (.iconst 0, 66, 0, 0, 0, 0, 0), some (.istore 10, 68, 0, 0, 0, 0, 0), none, some (.iload 10, 70, 0, 0, 0, 0, 0), none, some (.ifCond .eq 9, 73, 79, 0, 0, 0, 0), none, none, some (.iload 9, 75, 0, 0, 0, 0, 0), none, some (.iconst (-1), 76, 1, 1, 0, 0, 0), some (.if_icmp .ne 12, 79, 88, 0, 0, 0, 0), none, none, some (.iload 9, 81, 0, 0, 0, 0, 0), none, some (.aload_n 0, 82, 0, 0, 0, 0, 0), some (.invokevirtual 132, 85, 116, 1, 0, 0, 0), none, none, some (.if_icmp .lt 5, 88, 90, 0, 0, 0, 0), none, none, some (.iconst 0, 89, 0, 0, 0, 0, 0), some (.ireturn, 90, 1, 0, 0, 0, 0), some (.iload 9, 92, 0, 0, 0, 0, 0), none, some (.ifCond .lt 6, 95, 98, 0, 0, 0, 0), none, none, some (.iinc 2 1, 98, 1, 0, 0, 0, 0)]
def T_L_isSound_3 : List (Option GE) := [none, none, some (.iload 9, 100, 0, 0, 0, 0, 0), none, some (.iconst (-1), 101, 1, 1, 0, 0, 0), some (.if_icmp .ne 11, 104, 112, 0, 0, 0, 0), none, none, some (.iload 10, 106, 0, 0, 0, 0, 0), none, some (.ifCond .ne 6, 109, 112, 0, 0, 0, 0), none, none, some (.iinc 7 1, 112, 1, 0, 0, 0, 0), none, none, some (.aload_n 0, 113, 0, 0, 0, 0, 0), some (.iload 8, 115, 0, 0, 0, 0, 0), none, some (.iload 6, 117, 0, 0, 0, 0, 0), none, some (.invokestatic 135, 120, 181, 3, 1, 6, 0), none, none, some (.ifCond .le 7, 123, 127, 0, 0, 0, 0), none, none, some (.iconst 1, 124, 1, 0, 0, 0, 0), some (.goto 4, 127, 128, 0, 0, 0, 0), none, none, some (.iconst 0, 128, 0, 0, 0, 0, 0)]
def T_L_isSound_4 : List (Option GE) := [some (.iload 9, 130, 0, 0, 0, 0, 0), none, some (.iconst (-1), 131, 1, 1, 0, 0, 0), some (.if_icmp .ne 12, 134, 143, 0, 0, 0, 0), none, none, some (.iload 10, 136, 0, 0, 0, 0, 0), none, some (.ifCond .ne 7, 139, 143, 0, 0, 0, 0), none, none, some (.iconst 1, 140, 1, 0, 0, 0, 0), some (.goto 4, 143, 144, 0, 0, 0, 0), none, none, some (.iconst 0, 144, 0, 0, 0, 0, 0), some (.if_icmp .eq 5, 147, 149, 0, 0, 0, 0), none, none, some (.iconst 0, 148, 0, 0, 0, 0, 0), some (.ireturn, 149, 1, 0, 0, 0, 0), some (.aload_n 0, 150, 0, 0, 0, 0, 0), some (.iload 8, 152, 0, 0, 0, 0, 0), none, some (.iload 6, 154, 0, 0, 0, 0, 0), none, some (.invokestatic 137, 157, 182, 3, 1, 6, 0), none, none, some (.iconst 1, 158, 1, 0, 0, 0, 0), some (.if_icmp .ne 38, 161, 196, 0, 0, 0, 0), none]
def T_L_isSound_5 : List (Option GE) := [none, some (.iinc 3 1, 164, 1, 0, 0, 0, 0), none, none, some (.iconst 0, 165, 0, 0, 0, 0, 0), some (.istore 11, 167, 0, 0, 0, 0, 0), none, some (.iload 11, 169, 0, 0, 0, 0, 0), none, some (.iconst 4, 170, 4, 0, 0, 0, 0), some (.if_icmp .ge 26, 173, 196, 0, 0, 0, 0), none, none, some (.aload_n 0, 174, 0, 0, 0, 0, 0), some (.iconst 0, 175, 0, 0, 0, 0, 0), some (.iload 11, 177, 0, 0, 0, 0, 0), none, some (.iload 8, 179, 0, 0, 0, 0, 0), none, some (.iload 6, 181, 0, 0, 0, 0, 0), none, some (.invokestatic 139, 184, 176, 5, 3, 18, 0), none, none, some (.iconst 1, 185, 1, 0, 0, 0, 0), some (.if_icmp .ne 5, 188, 190, 0, 0, 0, 0), none, none, some (.iconst 0, 189, 0, 0, 0, 0, 0), some (.ireturn, 190, 1, 0, 0, 0, 0), some (.iinc 11 1, 193, 1, 0, 0, 0, 0), none]
def T_L_isSound_6 : List (Option GE) := [none, some (.goto (-26), 196, 167, 0, 0, 0, 0), none, none, some (.iconst 0, 197, 0, 0, 0, 0, 0), some (.istore 11, 199, 0, 0, 0, 0, 0), none, some (.iload 11, 201, 0, 0, 0, 0, 0), none, some (.iconst 2, 202, 2, 0, 0, 0, 0), some (.if_icmp .ge 80, 205, 282, 0, 0, 0, 0), none, none, some (.aload_n 0, 206, 0, 0, 0, 0, 0), some (.iload 8, 208, 0, 0, 0, 0, 0), none, some (.iload 6, 210, 0, 0, 0, 0, 0), none, some (.iload 11, 212, 0, 0, 0, 0, 0), none, some (.invokestatic 142, 215, 165, 4, 2, 12, 0), none, none, some (.istore 12, 217, 0, 0, 0, 0, 0), none, some (.iload 12, 219, 0, 0, 0, 0, 0), none, some (.iconst 1, 220, 1, 0, 0, 0, 0), some (.if_icmp .ne 6, 223, 226, 0, 0, 0, 0), none, none, some (.iinc 5 1, 226, 1, 0, 0, 0, 0)]
def T_L_isSound_7 : List (Option GE) := [none, none, some (.iload 12, 228, 0, 0, 0, 0, 0), none, some (.iconst 1, 229, 1, 0, 0, 0, 0), some (.if_icmp .ne 47, 232, 276, 0, 0, 0, 0), none, none, some (.iload 9, 234, 0, 0, 0, 0, 0), none, some (.ifCond .lt 42, 237, 276, 0, 0, 0, 0), none, none, some (.aload_n 0, 238, 0, 0, 0, 0, 0), some (.iload 11, 240, 0, 0, 0, 0, 0), none, some (.ifCond .ne 10, 243, 250, 0, 0, 0, 0), none, none, some (.iload 8, 245, 0, 0, 0, 0, 0), none, some (.iconst 1, 246, 1, 0, 0, 0, 0), some (.iadd, 247, 0, 0, 0, 0, 0), some (.goto 5, 250, 252, 0, 0, 0, 0), none, none, some (.iload 8, 252, 0, 0, 0, 0, 0), none, some (.iload 11, 254, 0, 0, 0, 0, 0), none, some (.ifCond .ne 8, 257, 262, 0, 0, 0, 0), none]
def T_L_isSound_8 : List (Option GE) := [none, some (.iload 6, 259, 0, 0, 0, 0, 0), none, some (.goto 7, 262, 266, 0, 0, 0, 0), none, none, some (.iload 6, 264, 0, 0, 0, 0, 0), none, some (.iconst 1, 265, 1, 0, 0, 0, 0), some (.iadd, 266, 0, 0, 0, 0, 0), some (.invokestatic 127, 269, 164, 3, 1, 6, 0), none, none, some (.iload 9, 271, 0, 0, 0, 0, 0), none, some (.if_icmp .ne 5, 274, 276, 0, 0, 0, 0), none, none, some (.iconst 0, 275, 0, 0, 0, 0, 0), some (.ireturn, 276, 1, 0, 0, 0, 0), some (.iinc 11 1, 279, 1, 0, 0, 0, 0), none, none, some (.goto (-80), 282, 199, 0, 0, 0, 0), none, none, some (.iinc 8 1, 285, 1, 0, 0, 0, 0), none, none, some (.goto (-255), 288, 30, 0, 0, 0, 0), none, none]
def T_L_isSound_9 : List (Option GE) := [some (.iload 7, 290, 0, 0, 0, 0, 0), none, some (.aload_n 0, 291, 0, 0, 0, 0, 0), some (.iload 6, 293, 0, 0, 0, 0, 0), none, some (.invokestatic 145, 296, 166, 2, 1, 6, 0), none, none, some (.if_icmp .eq 5, 299, 301, 0, 0, 0, 0), none, none, some (.iconst 0, 300, 0, 0, 0, 0, 0), some (.ireturn, 301, 1, 0, 0, 0, 0), some (.iload 7, 303, 0, 0, 0, 0, 0), none, some (.ifCond .ne 6, 306, 309, 0, 0, 0, 0), none, none, some (.iinc 4 1, 309, 1, 0, 0, 0, 0), none, none, some (.iload_n 1, 310, 0, 0, 0, 0, 0), some (.iload 7, 312, 0, 0, 0, 0, 0), none, some (.iadd, 313, 0, 0, 0, 0, 0), some (.istore_n 1, 314, 0, 0, 0, 0, 0), some (.iinc 6 1, 317, 1, 0, 0, 0, 0), none, none, some (.goto (-302), 320, 15, 0, 0, 0, 0), none, none]
def T_L_isSound_10 : List (Option GE) := [some (.iconst 0, 321, 0, 0, 0, 0, 0), some (.istore 6, 323, 0, 0, 0, 0, 0), none, some (.iconst 0, 324, 0, 0, 0, 0, 0), some (.istore 7, 326, 0, 0, 0, 0, 0), none, some (.iconst 0, 327, 0, 0, 0, 0, 0), some (.istore 8, 329, 0, 0, 0, 0, 0), none, some (.iload 8, 331, 0, 0, 0, 0, 0), none, some (.aload_n 0, 332, 0, 0, 0, 0, 0), some (.invokevirtual 132, 335, 116, 1, 0, 0, 0), none, none, some (.if_icmp .ge 104, 338, 439, 0, 0, 0, 0), none, none, some (.iload 6, 340, 0, 0, 0, 0, 0), none, some (.aload_n 0, 341, 0, 0, 0, 0, 0), some (.iload 8, 343, 0, 0, 0, 0, 0), none, some (.invokestatic 147, 346, 172, 2, 1, 6, 0), none, none, some (.iadd, 347, 0, 0, 0, 0, 0), some (.istore 6, 349, 0, 0, 0, 0, 0), none, some (.aload_n 0, 350, 0, 0, 0, 0, 0), some (.iload 8, 352, 0, 0, 0, 0, 0), none]
def T_L_isSound_11 : List (Option GE) := [some (.invokestatic 149, 355, 167, 2, 1, 6, 0), none, none, some (.istore 9, 357, 0, 0, 0, 0, 0), none, some (.iload 7, 359, 0, 0, 0, 0, 0), none, some (.iload 9, 361, 0, 0, 0, 0, 0), none, some (.ifCond .ne 7, 364, 368, 0, 0, 0, 0), none, none, some (.iconst 2, 365, 2, 0, 0, 0, 0), some (.goto 14, 368, 379, 0, 0, 0, 0), none, none, some (.iload 9, 370, 0, 0, 0, 0, 0), none, some (.iconst 3, 371, 3, 0, 0, 0, 0), some (.if_icmp .ge 7, 374, 378, 0, 0, 0, 0), none, none, some (.iconst 3, 375, 3, 0, 0, 0, 0), some (.goto 4, 378, 379, 0, 0, 0, 0), none, none, some (.iconst 4, 379, 4, 0, 0, 0, 0), some (.iadd, 380, 0, 0, 0, 0, 0), some (.istore 7, 382, 0, 0, 0, 0, 0), none, some (.aload_n 0, 383, 0, 0, 0, 0, 0), some (.aload_n 0, 384, 0, 0, 0, 0, 0)]
def T_L_isSound_12 : List (Option GE) := [some (.iload 8, 386, 0, 0, 0, 0, 0), none, some (.invokestatic 151, 389, 169, 2, 1, 6, 0), none, none, some (.aload_n 0, 390, 0, 0, 0, 0, 0), some (.iload 8, 392, 0, 0, 0, 0, 0), none, some (.invokestatic 153, 395, 170, 2, 1, 6, 0), none, none, some (.invokestatic 127, 398, 164, 3, 1, 6, 0), none, none, some (.iload 8, 400, 0, 0, 0, 0, 0), none, some (.if_icmp .ne 31, 403, 431, 0, 0, 0, 0), none, none, some (.aload_n 0, 404, 0, 0, 0, 0, 0), some (.iload 9, 406, 0, 0, 0, 0, 0), none, some (.aload_n 0, 407, 0, 0, 0, 0, 0), some (.iload 8, 409, 0, 0, 0, 0, 0), none, some (.invokestatic 155, 412, 168, 2, 1, 6, 0), none, none, some (.aload_n 0, 413, 0, 0, 0, 0, 0), some (.iload 8, 415, 0, 0, 0, 0, 0), none, some (.invokestatic 151, 418, 169, 2, 1, 6, 0)]
def T_L_isSound_13 : List (Option GE) := [none, none, some (.aload_n 0, 419, 0, 0, 0, 0, 0), some (.iload 8, 421, 0, 0, 0, 0, 0), none, some (.invokestatic 153, 424, 170, 2, 1, 6, 0), none, none, some (.invokestatic 157, 427, 177, 5, 3, 18, 0), none, none, some (.iconst 2, 428, 2, 0, 0, 0, 0), some (.if_icmp .ge 5, 431, 433, 0, 0, 0, 0), none, none, some (.iconst 0, 432, 0, 0, 0, 0, 0), some (.ireturn, 433, 1, 0, 0, 0, 0), some (.iinc 8 1, 436, 1, 0, 0, 0, 0), none, none, some (.goto (-107), 439, 329, 0, 0, 0, 0), none, none, some (.aload_n 0, 440, 0, 0, 0, 0, 0), some (.iconst 0, 441, 0, 0, 0, 0, 0), some (.invokestatic 159, 444, 173, 2, 1, 6, 0), none, none, some (.aload_n 0, 445, 0, 0, 0, 0, 0), some (.iconst 1, 446, 1, 0, 0, 0, 0), some (.invokestatic 159, 449, 173, 2, 1, 6, 0), none]
def T_L_isSound_14 : List (Option GE) := [none, some (.if_icmp .eq 7, 452, 456, 0, 0, 0, 0), none, none, some (.iconst 1, 453, 1, 0, 0, 0, 0), some (.goto 4, 456, 457, 0, 0, 0, 0), none, none, some (.iconst 0, 457, 0, 0, 0, 0, 0), some (.istore 8, 459, 0, 0, 0, 0, 0), none, some (.iload_n 1, 460, 0, 0, 0, 0, 0), some (.aload_n 0, 461, 0, 0, 0, 0, 0), some (.invokevirtual 161, 464, 115, 1, 0, 0, 0), none, none, some (.if_icmp .ne 137, 467, 601, 0, 0, 0, 0), none, none, some (.iload_n 2, 468, 0, 0, 0, 0, 0), some (.iload 7, 470, 0, 0, 0, 0, 0), none, some (.if_icmp .ne 131, 473, 601, 0, 0, 0, 0), none, none, some (.iload_n 3, 474, 0, 0, 0, 0, 0), some (.aload_n 0, 475, 0, 0, 0, 0, 0), some (.invokevirtual 164, 478, 150, 1, 0, 0, 0), none, none, some (.if_icmp .ne 123, 481, 601, 0, 0, 0, 0), none]
def T_L_isSound_15 : List (Option GE) := [none, some (.iload 4, 483, 0, 0, 0, 0, 0), none, some (.aload_n 0, 484, 0, 0, 0, 0, 0), some (.invokevirtual 167, 487, 118, 1, 0, 0, 0), none, none, some (.if_icmp .ne 114, 490, 601, 0, 0, 0, 0), none, none, some (.iload 5, 492, 0, 0, 0, 0, 0), none, some (.aload_n 0, 493, 0, 0, 0, 0, 0), some (.invokevirtual 170, 496, 117, 1, 0, 0, 0), none, none, some (.if_icmp .ne 105, 499, 601, 0, 0, 0, 0), none, none, some (.iload 6, 501, 0, 0, 0, 0, 0), none, some (.aload_n 0, 502, 0, 0, 0, 0, 0), some (.iconst 0, 503, 0, 0, 0, 0, 0), some (.invokestatic 159, 506, 173, 2, 1, 6, 0), none, none, some (.aload_n 0, 507, 0, 0, 0, 0, 0), some (.iconst 1, 508, 1, 0, 0, 0, 0), some (.invokestatic 159, 511, 173, 2, 1, 6, 0), none, none, some (.iadd, 512, 0, 0, 0, 0, 0)]
def T_L_isSound_16 : List (Option GE) := [some (.if_icmp .ne 89, 515, 601, 0, 0, 0, 0), none, none, some (.aload_n 0, 516, 0, 0, 0, 0, 0), some (.invokevirtual 173, 519, 132, 1, 0, 0, 0), none, none, some (.ifCond .lt 7, 522, 526, 0, 0, 0, 0), none, none, some (.iconst 1, 523, 1, 0, 0, 0, 0), some (.goto 4, 526, 527, 0, 0, 0, 0), none, none, some (.iconst 0, 527, 0, 0, 0, 0, 0), some (.iload 8, 529, 0, 0, 0, 0, 0), none, some (.if_icmp .ne 72, 532, 601, 0, 0, 0, 0), none, none, some (.iload 8, 534, 0, 0, 0, 0, 0), none, some (.ifCond .eq 24, 537, 558, 0, 0, 0, 0), none, none, some (.aload_n 0, 538, 0, 0, 0, 0, 0), some (.aload_n 0, 539, 0, 0, 0, 0, 0), some (.invokevirtual 173, 542, 132, 1, 0, 0, 0), none, none, some (.invokestatic 159, 545, 173, 2, 1, 6, 0), none]
def T_L_isSound_17 : List (Option GE) := [none, some (.aload_n 0, 546, 0, 0, 0, 0, 0), some (.iconst 1, 547, 1, 0, 0, 0, 0), some (.aload_n 0, 548, 0, 0, 0, 0, 0), some (.invokevirtual 173, 551, 132, 1, 0, 0, 0), none, none, some (.isub, 552, 0, 0, 0, 0, 0), some (.invokestatic 159, 555, 173, 2, 1, 6, 0), none, none, some (.if_icmp .le 46, 558, 601, 0, 0, 0, 0), none, none, some (.aload_n 0, 559, 0, 0, 0, 0, 0), some (.invokevirtual 176, 562, 147, 1, 0, 0, 0), none, none, some (.iload_n 1, 563, 0, 0, 0, 0, 0), some (.if_icmp .gt 38, 566, 601, 0, 0, 0, 0), none, none, some (.aload_n 0, 567, 0, 0, 0, 0, 0), some (.invokevirtual 179, 570, 146, 1, 0, 0, 0), none, none, some (.ifCond .ne 7, 573, 577, 0, 0, 0, 0), none, none, some (.iconst 1, 574, 1, 0, 0, 0, 0), some (.goto 4, 577, 578, 0, 0, 0, 0), none]
def T_L_isSound_18 : List (Option GE) := [none, some (.iconst 0, 578, 0, 0, 0, 0, 0), some (.iload_n 1, 579, 0, 0, 0, 0, 0), some (.ifCond .ne 7, 582, 586, 0, 0, 0, 0), none, none, some (.iconst 1, 583, 1, 0, 0, 0, 0), some (.goto 4, 586, 587, 0, 0, 0, 0), none, none, some (.iconst 0, 587, 0, 0, 0, 0, 0), some (.if_icmp .ne 14, 590, 601, 0, 0, 0, 0), none, none, some (.aload_n 0, 591, 0, 0, 0, 0, 0), some (.invokevirtual 182, 594, 151, 1, 0, 0, 0), none, none, some (.ifCond .ne 7, 597, 601, 0, 0, 0, 0), none, none, some (.iconst 1, 598, 1, 0, 0, 0, 0), some (.goto 4, 601, 602, 0, 0, 0, 0), none, none, some (.iconst 0, 602, 0, 0, 0, 0, 0), some (.ireturn, 603, 1, 0, 0, 0, 0)]
def T_L_isSound : List (List (Option GE)) := [T_L_isSound_0, T_L_isSound_1, T_L_isSound_2, T_L_isSound_3, T_L_isSound_4, T_L_isSound_5, T_L_isSound_6, T_L_isSound_7, T_L_isSound_8, T_L_isSound_9, T_L_isSound_10, T_L_isSound_11, T_L_isSound_12, T_L_isSound_13, T_L_isSound_14, T_L_isSound_15, T_L_isSound_16, T_L_isSound_17, T_L_isSound_18]
def T_L_moves_0 : List (Option GE) := [some (.aload_n 0, 1, 0, 0, 0, 0, 0), some (.invokevirtual 185, 4, 130, 1, 0, 0, 0), none, none, some (.istore_n 2, 5, 0, 0, 0, 0, 0), some (.iload_n 2, 6, 0, 0, 0, 0, 0), some (.iconst (-1), 7, 1, 1, 0, 0, 0), some (.if_icmp .ne 41, 10, 48, 0, 0, 0, 0), none, none, some (.aload_n 0, 11, 0, 0, 0, 0, 0), some (.invokevirtual 188, 14, 131, 1, 0, 0, 0), none, none, some (.ifCond .eq 32, 17, 46, 0, 0, 0, 0), none, none, some (.aload_n 0, 18, 0, 0, 0, 0, 0), some (.invokevirtual 192, 21, 141, 1, 0, 0, 0), none, none, some (.iconst (-1), 22, 1, 1, 0, 0, 0), some (.if_icmp .ne 24, 25, 46, 0, 0, 0, 0), none, none, some (.aload_n 0, 26, 0, 0, 0, 0, 0), some (.invokevirtual 195, 29, 145, 1, 0, 0, 0), none, none, some (.iconst (-1), 30, 1, 1, 0, 0, 0), some (.if_icmp .ne 16, 33, 46, 0, 0, 0, 0), none]
def T_L_moves_1 : List (Option GE) := [none, some (.aload_n 0, 34, 0, 0, 0, 0, 0), some (.invokestatic 198, 37, 161, 1, 1, 6, 0), none, none, some (.bipush (-19), 39, 19, 1, 0, 0, 0), none, some (.if_icmp .ne 7, 42, 46, 0, 0, 0, 0), none, none, some (.iconst 1, 43, 1, 0, 0, 0, 0), some (.goto 4, 46, 47, 0, 0, 0, 0), none, none, some (.iconst 0, 47, 0, 0, 0, 0, 0), some (.ireturn, 48, 1, 0, 0, 0, 0), some (.iconst 1, 49, 1, 0, 0, 0, 0), some (.iload_n 2, 50, 0, 0, 0, 0, 0), some (.isub, 51, 0, 0, 0, 0, 0), some (.istore_n 3, 52, 0, 0, 0, 0, 0), some (.aload_n 0, 53, 0, 0, 0, 0, 0), some (.iload_n 3, 54, 0, 0, 0, 0, 0), some (.invokestatic 201, 57, 179, 2, 1, 6, 0), none, none, some (.istore 4, 59, 0, 0, 0, 0, 0), none, some (.aload_n 1, 60, 0, 0, 0, 0, 0), some (.bipush 6, 62, 6, 0, 0, 0, 0), none, some (.invokestatic 203, 65, 185, 2, 0, 0, 0), none]
def T_L_moves_2 : List (Option GE) := [none, some (.tableswitch 308 0 2 #[27, 189, 260], 92, 373, 0, 0, 0, 27), none, none, none, none, none, none, none, none, none, none, none, none, none, none, none, none, none, none, none, none, none, none, none, none, none, none, some (.aload_n 1, 93, 0, 0, 0, 0, 0), some (.aload_n 0, 94, 0, 0, 0, 0, 0), some (.invokevirtual 124, 97, 113, 1, 0, 0, 0), none]
def T_L_moves_3 : List (Option GE) := [none, some (.invokestatic 203, 100, 185, 2, 0, 0, 0), none, none, some (.istore 5, 102, 0, 0, 0, 0, 0), none, some (.aload_n 1, 103, 0, 0, 0, 0, 0), some (.aload_n 0, 104, 0, 0, 0, 0, 0), some (.invokevirtual 121, 107, 114, 1, 0, 0, 0), none, none, some (.invokestatic 203, 110, 185, 2, 0, 0, 0), none, none, some (.istore 6, 112, 0, 0, 0, 0, 0), none, some (.aload_n 1, 113, 0, 0, 0, 0, 0), some (.iconst 2, 114, 2, 0, 0, 0, 0), some (.invokestatic 203, 117, 185, 2, 0, 0, 0), none, none, some (.istore 7, 119, 0, 0, 0, 0, 0), none, some (.aload_n 0, 120, 0, 0, 0, 0, 0), some (.iload_n 2, 121, 0, 0, 0, 0, 0), some (.invokestatic 207, 124, 175, 2, 1, 6, 0), none, none, some (.istore 8, 126, 0, 0, 0, 0, 0), none, some (.aload_n 0, 127, 0, 0, 0, 0, 0), some (.invokevirtual 170, 130, 117, 1, 0, 0, 0)]
def T_L_moves_4 : List (Option GE) := [none, none, some (.istore 9, 132, 0, 0, 0, 0, 0), none, some (.aload_n 0, 133, 0, 0, 0, 0, 0), some (.iload_n 2, 134, 0, 0, 0, 0, 0), some (.invokestatic 201, 137, 179, 2, 1, 6, 0), none, none, some (.istore 10, 139, 0, 0, 0, 0, 0), none, some (.aload_n 0, 140, 0, 0, 0, 0, 0), some (.invokevirtual 195, 143, 145, 1, 0, 0, 0), none, none, some (.istore 11, 145, 0, 0, 0, 0, 0), none, some (.aload_n 0, 146, 0, 0, 0, 0, 0), some (.iload 5, 148, 0, 0, 0, 0, 0), none, some (.iload 6, 150, 0, 0, 0, 0, 0), none, some (.iload 7, 152, 0, 0, 0, 0, 0), none, some (.invokestatic 209, 155, 160, 4, 3, 18, 0), none, none, some (.istore 12, 157, 0, 0, 0, 0, 0), none, some (.iload 12, 159, 0, 0, 0, 0, 0), none, some (.ifCond .ge 28, 162, 187, 0, 0, 0, 0)]
def T_L_moves_5 : List (Option GE) := [none, none, some (.aload_n 0, 163, 0, 0, 0, 0, 0), some (.invokevirtual 170, 166, 117, 1, 0, 0, 0), none, none, some (.iload 9, 168, 0, 0, 0, 0, 0), none, some (.if_icmp .ne 17, 171, 185, 0, 0, 0, 0), none, none, some (.aload_n 0, 172, 0, 0, 0, 0, 0), some (.iload_n 2, 173, 0, 0, 0, 0, 0), some (.invokestatic 207, 176, 175, 2, 1, 6, 0), none, none, some (.iload 8, 178, 0, 0, 0, 0, 0), none, some (.if_icmp .ne 7, 181, 185, 0, 0, 0, 0), none, none, some (.iconst 1, 182, 1, 0, 0, 0, 0), some (.goto 4, 185, 186, 0, 0, 0, 0), none, none, some (.iconst 0, 186, 0, 0, 0, 0, 0), some (.ireturn, 187, 1, 0, 0, 0, 0), some (.iload 12, 189, 0, 0, 0, 0, 0), none, some (.iload 8, 191, 0, 0, 0, 0, 0), none, some (.iconst 1, 192, 1, 0, 0, 0, 0)]
def T_L_moves_6 : List (Option GE) := [some (.isub, 193, 0, 0, 0, 0, 0), some (.if_icmp .ne 59, 196, 252, 0, 0, 0, 0), none, none, some (.aload_n 0, 197, 0, 0, 0, 0, 0), some (.invokevirtual 170, 200, 117, 1, 0, 0, 0), none, none, some (.iload 9, 202, 0, 0, 0, 0, 0), none, some (.iconst 1, 203, 1, 0, 0, 0, 0), some (.iadd, 204, 0, 0, 0, 0, 0), some (.if_icmp .ne 48, 207, 252, 0, 0, 0, 0), none, none, some (.aload_n 0, 208, 0, 0, 0, 0, 0), some (.invokevirtual 185, 211, 130, 1, 0, 0, 0), none, none, some (.iload_n 3, 212, 0, 0, 0, 0, 0), some (.if_icmp .ne 40, 215, 252, 0, 0, 0, 0), none, none, some (.aload_n 0, 216, 0, 0, 0, 0, 0), some (.iload_n 3, 217, 0, 0, 0, 0, 0), some (.invokestatic 201, 220, 179, 2, 1, 6, 0), none, none, some (.iload 4, 222, 0, 0, 0, 0, 0), none, some (.if_icmp .gt 30, 225, 252, 0, 0, 0, 0), none]
def T_L_moves_7 : List (Option GE) := [none, some (.aload_n 0, 226, 0, 0, 0, 0, 0), some (.iload_n 2, 227, 0, 0, 0, 0, 0), some (.invokestatic 201, 230, 179, 2, 1, 6, 0), none, none, some (.iload 10, 232, 0, 0, 0, 0, 0), none, some (.if_icmp .gt 20, 235, 252, 0, 0, 0, 0), none, none, some (.iload 4, 237, 0, 0, 0, 0, 0), none, some (.aload_n 0, 238, 0, 0, 0, 0, 0), some (.iload_n 3, 239, 0, 0, 0, 0, 0), some (.invokestatic 201, 242, 179, 2, 1, 6, 0), none, none, some (.isub, 243, 0, 0, 0, 0, 0), some (.iload 11, 245, 0, 0, 0, 0, 0), none, some (.if_icmp .gt 7, 248, 252, 0, 0, 0, 0), none, none, some (.iconst 1, 249, 1, 0, 0, 0, 0), some (.goto 4, 252, 253, 0, 0, 0, 0), none, none, some (.iconst 0, 253, 0, 0, 0, 0, 0), some (.ireturn, 254, 1, 0, 0, 0, 0), some (.aload_n 0, 255, 0, 0, 0, 0, 0), some (.iload_n 2, 256, 0, 0, 0, 0, 0)]
def T_L_moves_8 : List (Option GE) := [some (.invokestatic 201, 259, 179, 2, 1, 6, 0), none, none, some (.ifCond .ne 7, 262, 266, 0, 0, 0, 0), none, none, some (.iconst 1, 263, 1, 0, 0, 0, 0), some (.goto 4, 266, 267, 0, 0, 0, 0), none, none, some (.iconst 0, 267, 0, 0, 0, 0, 0), some (.istore 5, 269, 0, 0, 0, 0, 0), none, some (.aload_n 0, 270, 0, 0, 0, 0, 0), some (.invokestatic 198, 273, 161, 1, 1, 6, 0), none, none, some (.istore 6, 275, 0, 0, 0, 0, 0), none, some (.iload 5, 277, 0, 0, 0, 0, 0), none, some (.ifCond .eq 35, 280, 312, 0, 0, 0, 0), none, none, some (.iload 6, 282, 0, 0, 0, 0, 0), none, some (.iconst 1, 283, 1, 0, 0, 0, 0), some (.if_icmp .lt 25, 286, 308, 0, 0, 0, 0), none, none, some (.iload 6, 288, 0, 0, 0, 0, 0), none]
def T_L_moves_9 : List (Option GE) := [some (.iconst 2, 289, 2, 0, 0, 0, 0), some (.if_icmp .ne 7, 292, 296, 0, 0, 0, 0), none, none, some (.iconst 1, 293, 1, 0, 0, 0, 0), some (.goto 4, 296, 297, 0, 0, 0, 0), none, none, some (.iconst 0, 297, 0, 0, 0, 0, 0), some (.aload_n 0, 298, 0, 0, 0, 0, 0), some (.invokevirtual 188, 301, 131, 1, 0, 0, 0), none, none, some (.if_icmp .ne 7, 304, 308, 0, 0, 0, 0), none, none, some (.iconst 1, 305, 1, 0, 0, 0, 0), some (.goto 19, 308, 324, 0, 0, 0, 0), none, none, some (.iconst 0, 309, 0, 0, 0, 0, 0), some (.goto 15, 312, 324, 0, 0, 0, 0), none, none, some (.iload 6, 314, 0, 0, 0, 0, 0), none, some (.bipush (-19), 316, 19, 1, 0, 0, 0), none, some (.if_icmp .ne 7, 319, 323, 0, 0, 0, 0), none, none, some (.iconst 1, 320, 1, 0, 0, 0, 0)]
def T_L_moves_10 : List (Option GE) := [some (.goto 4, 323, 324, 0, 0, 0, 0), none, none, some (.iconst 0, 324, 0, 0, 0, 0, 0), some (.ireturn, 325, 1, 0, 0, 0, 0), some (.aload_n 1, 326, 0, 0, 0, 0, 0), some (.iconst 5, 327, 5, 0, 0, 0, 0), some (.invokestatic 203, 330, 185, 2, 0, 0, 0), none, none, some (.istore 5, 332, 0, 0, 0, 0, 0), none, some (.aload_n 1, 333, 0, 0, 0, 0, 0), some (.iconst 4, 334, 4, 0, 0, 0, 0), some (.invokestatic 203, 337, 185, 2, 0, 0, 0), none, none, some (.istore 6, 339, 0, 0, 0, 0, 0), none, some (.aload_n 1, 340, 0, 0, 0, 0, 0), some (.aload_n 0, 341, 0, 0, 0, 0, 0), some (.invokevirtual 124, 344, 113, 1, 0, 0, 0), none, none, some (.invokestatic 203, 347, 185, 2, 0, 0, 0), none, none, some (.istore 7, 349, 0, 0, 0, 0, 0), none, some (.aload_n 1, 350, 0, 0, 0, 0, 0), some (.aload_n 0, 351, 0, 0, 0, 0, 0), some (.invokevirtual 121, 354, 114, 1, 0, 0, 0)]
def T_L_moves_11 : List (Option GE) := [none, none, some (.invokestatic 203, 357, 185, 2, 0, 0, 0), none, none, some (.istore 8, 359, 0, 0, 0, 0, 0), none, some (.aload_n 0, 360, 0, 0, 0, 0, 0), some (.iload 5, 362, 0, 0, 0, 0, 0), none, some (.iload 6, 364, 0, 0, 0, 0, 0), none, some (.iload 7, 366, 0, 0, 0, 0, 0), none, some (.iload 8, 368, 0, 0, 0, 0, 0), none, some (.iload_n 2, 369, 0, 0, 0, 0, 0), some (.invokestatic 211, 372, 188, 6, 26, 156, 0), none, none, some (.ireturn, 373, 1, 0, 0, 0, 0), some (.aload_n 0, 374, 0, 0, 0, 0, 0), some (.invokevirtual 192, 377, 141, 1, 0, 0, 0), none, none, some (.istore 5, 379, 0, 0, 0, 0, 0), none, some (.iload 5, 381, 0, 0, 0, 0, 0), none, some (.iconst (-1), 382, 1, 1, 0, 0, 0), some (.if_icmp .ne 25, 385, 407, 0, 0, 0, 0), none]
def T_L_moves_12 : List (Option GE) := [none, some (.aload_n 0, 386, 0, 0, 0, 0, 0), some (.iload_n 2, 387, 0, 0, 0, 0, 0), some (.invokestatic 201, 390, 179, 2, 1, 6, 0), none, none, some (.ifCond .ne 15, 393, 405, 0, 0, 0, 0), none, none, some (.aload_n 0, 394, 0, 0, 0, 0, 0), some (.invokestatic 198, 397, 161, 1, 1, 6, 0), none, none, some (.iconst 1, 398, 1, 0, 0, 0, 0), some (.if_icmp .lt 7, 401, 405, 0, 0, 0, 0), none, none, some (.iconst 1, 402, 1, 0, 0, 0, 0), some (.goto 4, 405, 406, 0, 0, 0, 0), none, none, some (.iconst 0, 406, 0, 0, 0, 0, 0), some (.ireturn, 407, 1, 0, 0, 0, 0), some (.aload_n 1, 408, 0, 0, 0, 0, 0), some (.iconst 4, 409, 4, 0, 0, 0, 0), some (.invokestatic 203, 412, 185, 2, 0, 0, 0), none, none, some (.istore 6, 414, 0, 0, 0, 0, 0), none, some (.aload_n 1, 415, 0, 0, 0, 0, 0), some (.aload_n 0, 416, 0, 0, 0, 0, 0)]
def T_L_moves_13 : List (Option GE) := [some (.invokevirtual 124, 419, 113, 1, 0, 0, 0), none, none, some (.invokestatic 203, 422, 185, 2, 0, 0, 0), none, none, some (.istore 7, 424, 0, 0, 0, 0, 0), none, some (.aload_n 1, 425, 0, 0, 0, 0, 0), some (.aload_n 0, 426, 0, 0, 0, 0, 0), some (.invokevirtual 121, 429, 114, 1, 0, 0, 0), none, none, some (.invokestatic 203, 432, 185, 2, 0, 0, 0), none, none, some (.istore 8, 434, 0, 0, 0, 0, 0), none, some (.aload_n 0, 435, 0, 0, 0, 0, 0), some (.iload 5, 437, 0, 0, 0, 0, 0), none, some (.aload_n 0, 438, 0, 0, 0, 0, 0), some (.invokevirtual 215, 441, 142, 1, 0, 0, 0), none, none, some (.aload_n 0, 442, 0, 0, 0, 0, 0), some (.invokevirtual 218, 445, 143, 1, 0, 0, 0), none, none, some (.aload_n 0, 446, 0, 0, 0, 0, 0), some (.invokevirtual 221, 449, 144, 1, 0, 0, 0), none]
def T_L_moves_14 : List (Option GE) := [none, some (.invokestatic 224, 452, 178, 5, 3, 18, 0), none, none, some (.istore 9, 454, 0, 0, 0, 0, 0), none, some (.aload_n 0, 455, 0, 0, 0, 0, 0), some (.iload 5, 457, 0, 0, 0, 0, 0), none, some (.iload 6, 459, 0, 0, 0, 0, 0), none, some (.iload 7, 461, 0, 0, 0, 0, 0), none, some (.iload 8, 463, 0, 0, 0, 0, 0), none, some (.invokestatic 224, 466, 178, 5, 3, 18, 0), none, none, some (.iload 9, 468, 0, 0, 0, 0, 0), none, some (.if_icmp .gt 9, 471, 477, 0, 0, 0, 0), none, none, some (.iload 9, 473, 0, 0, 0, 0, 0), none, some (.iconst 2, 474, 2, 0, 0, 0, 0), some (.if_icmp .ge 5, 477, 479, 0, 0, 0, 0), none, none, some (.iconst 0, 478, 0, 0, 0, 0, 0), some (.ireturn, 479, 1, 0, 0, 0, 0), some (.aload_n 0, 480, 0, 0, 0, 0, 0)]
def T_L_moves_15 : List (Option GE) := [some (.iload 5, 482, 0, 0, 0, 0, 0), none, some (.aload_n 0, 483, 0, 0, 0, 0, 0), some (.invokevirtual 215, 486, 142, 1, 0, 0, 0), none, none, some (.aload_n 0, 487, 0, 0, 0, 0, 0), some (.invokevirtual 218, 490, 143, 1, 0, 0, 0), none, none, some (.aload_n 0, 491, 0, 0, 0, 0, 0), some (.invokevirtual 221, 494, 144, 1, 0, 0, 0), none, none, some (.iload_n 2, 495, 0, 0, 0, 0, 0), some (.invokestatic 211, 498, 188, 6, 26, 156, 0), none, none, some (.ireturn, 499, 1, 0, 0, 0, 0)]
def T_L_moves : List (List (Option GE)) := [T_L_moves_0, T_L_moves_1, T_L_moves_2, T_L_moves_3, T_L_moves_4, T_L_moves_5, T_L_moves_6, T_L_moves_7, T_L_moves_8, T_L_moves_9, T_L_moves_10, T_L_moves_11, T_L_moves_12, T_L_moves_13, T_L_moves_14, T_L_moves_15]
def T_L_places_0 : List (Option GE) := [some (.aload_n 0, 1, 0, 0, 0, 0, 0), some (.iload_n 1, 2, 0, 0, 0, 0, 0), some (.iload_n 2, 3, 0, 0, 0, 0, 0), some (.iload_n 3, 4, 0, 0, 0, 0, 0), some (.iload 4, 6, 0, 0, 0, 0, 0), none, some (.invokestatic 224, 9, 178, 5, 3, 18, 0), none, none, some (.istore 6, 11, 0, 0, 0, 0, 0), none, some (.aload_n 0, 12, 0, 0, 0, 0, 0), some (.iload 5, 14, 0, 0, 0, 0, 0), none, some (.iload_n 1, 15, 0, 0, 0, 0, 0), some (.invokestatic 226, 18, 174, 3, 2, 12, 0), none, none, some (.ifCond .le 12, 21, 30, 0, 0, 0, 0), none, none, some (.iload 6, 23, 0, 0, 0, 0, 0), none, some (.ifCond .lt 7, 26, 30, 0, 0, 0, 0), none, none, some (.iconst 1, 27, 1, 0, 0, 0, 0), some (.goto 4, 30, 31, 0, 0, 0, 0), none, none, some (.iconst 0, 31, 0, 0, 0, 0, 0), some (.istore 7, 33, 0, 0, 0, 0, 0)]
def T_L_places_1 : List (Option GE) := [none, some (.aload_n 0, 34, 0, 0, 0, 0, 0), some (.iload_n 1, 35, 0, 0, 0, 0, 0), some (.iload_n 2, 36, 0, 0, 0, 0, 0), some (.iload_n 3, 37, 0, 0, 0, 0, 0), some (.iload 4, 39, 0, 0, 0, 0, 0), none, some (.iload 5, 41, 0, 0, 0, 0, 0), none, some (.invokestatic 228, 44, 180, 6, 4, 24, 0), none, none, some (.istore 8, 46, 0, 0, 0, 0, 0), none, some (.aload_n 0, 47, 0, 0, 0, 0, 0), some (.iload_n 1, 48, 0, 0, 0, 0, 0), some (.iload_n 2, 49, 0, 0, 0, 0, 0), some (.iload_n 3, 50, 0, 0, 0, 0, 0), some (.iload 4, 52, 0, 0, 0, 0, 0), none, some (.iconst 1, 53, 1, 0, 0, 0, 0), some (.iload 5, 55, 0, 0, 0, 0, 0), none, some (.isub, 56, 0, 0, 0, 0, 0), some (.invokestatic 228, 59, 180, 6, 4, 24, 0), none, none, some (.istore 9, 61, 0, 0, 0, 0, 0), none, some (.aload_n 0, 62, 0, 0, 0, 0, 0), some (.iconst 1, 63, 1, 0, 0, 0, 0), some (.iload 5, 65, 0, 0, 0, 0, 0)]
def T_L_places_2 : List (Option GE) := [none, some (.isub, 66, 0, 0, 0, 0, 0), some (.invokestatic 201, 69, 179, 2, 1, 6, 0), none, none, some (.istore 10, 71, 0, 0, 0, 0, 0), none, some (.aload_n 0, 72, 0, 0, 0, 0, 0), some (.iload 5, 74, 0, 0, 0, 0, 0), none, some (.invokestatic 159, 77, 173, 2, 1, 6, 0), none, none, some (.istore 11, 79, 0, 0, 0, 0, 0), none, some (.aload_n 0, 80, 0, 0, 0, 0, 0), some (.invokevirtual 132, 83, 116, 1, 0, 0, 0), none, none, some (.istore 12, 85, 0, 0, 0, 0, 0), none, some (.aload_n 0, 86, 0, 0, 0, 0, 0), some (.iload_n 1, 87, 0, 0, 0, 0, 0), some (.iload_n 2, 88, 0, 0, 0, 0, 0), some (.iload_n 3, 89, 0, 0, 0, 0, 0), some (.iload 4, 91, 0, 0, 0, 0, 0), none, some (.invokestatic 157, 94, 177, 5, 3, 18, 0), none, none, some (.istore 13, 96, 0, 0, 0, 0, 0), none]
def T_L_places_3 : List (Option GE) := [some (.aload_n 0, 97, 0, 0, 0, 0, 0), some (.iload_n 1, 98, 0, 0, 0, 0, 0), some (.iload_n 2, 99, 0, 0, 0, 0, 0), some (.iload_n 3, 100, 0, 0, 0, 0, 0), some (.iload 4, 102, 0, 0, 0, 0, 0), none, some (.invokestatic 231, 105, 159, 5, 4, 24, 0), none, none, some (.istore 14, 107, 0, 0, 0, 0, 0), none, some (.iload 13, 109, 0, 0, 0, 0, 0), none, some (.ifCond .ne 7, 112, 116, 0, 0, 0, 0), none, none, some (.iconst 1, 113, 1, 0, 0, 0, 0), some (.goto 4, 116, 117, 0, 0, 0, 0), none, none, some (.iconst 0, 117, 0, 0, 0, 0, 0), some (.iload 6, 119, 0, 0, 0, 0, 0), none, some (.ifCond .lt 7, 122, 126, 0, 0, 0, 0), none, none, some (.iconst 1, 123, 1, 0, 0, 0, 0), some (.goto 4, 126, 127, 0, 0, 0, 0), none, none, some (.iconst 0, 127, 0, 0, 0, 0, 0), some (.if_icmp .eq 5, 130, 132, 0, 0, 0, 0)]
def T_L_places_4 : List (Option GE) := [none, none, some (.iconst 0, 131, 0, 0, 0, 0, 0), some (.ireturn, 132, 1, 0, 0, 0, 0), some (.iload 7, 134, 0, 0, 0, 0, 0), none, some (.ifCond .ne 37, 137, 171, 0, 0, 0, 0), none, none, some (.iload 14, 139, 0, 0, 0, 0, 0), none, some (.bipush (-19), 141, 19, 1, 0, 0, 0), none, some (.if_icmp .ne 28, 144, 169, 0, 0, 0, 0), none, none, some (.iload 8, 146, 0, 0, 0, 0, 0), none, some (.iconst (-1), 147, 1, 1, 0, 0, 0), some (.if_icmp .ne 22, 150, 169, 0, 0, 0, 0), none, none, some (.iload 9, 152, 0, 0, 0, 0, 0), none, some (.iconst (-1), 153, 1, 1, 0, 0, 0), some (.if_icmp .ne 16, 156, 169, 0, 0, 0, 0), none, none, some (.aload_n 0, 157, 0, 0, 0, 0, 0), some (.invokevirtual 132, 160, 116, 1, 0, 0, 0), none, none]
def T_L_places_5 : List (Option GE) := [some (.iload 12, 162, 0, 0, 0, 0, 0), none, some (.if_icmp .ne 7, 165, 169, 0, 0, 0, 0), none, none, some (.iconst 1, 166, 1, 0, 0, 0, 0), some (.goto 4, 169, 170, 0, 0, 0, 0), none, none, some (.iconst 0, 170, 0, 0, 0, 0, 0), some (.ireturn, 171, 1, 0, 0, 0, 0), some (.iload 14, 173, 0, 0, 0, 0, 0), none, some (.iload 6, 175, 0, 0, 0, 0, 0), none, some (.if_icmp .ne 85, 178, 260, 0, 0, 0, 0), none, none, some (.aload_n 0, 179, 0, 0, 0, 0, 0), some (.iload 5, 181, 0, 0, 0, 0, 0), none, some (.invokestatic 159, 184, 173, 2, 1, 6, 0), none, none, some (.iload 11, 186, 0, 0, 0, 0, 0), none, some (.iload 6, 188, 0, 0, 0, 0, 0), none, some (.iadd, 189, 0, 0, 0, 0, 0), some (.if_icmp .ne 71, 192, 260, 0, 0, 0, 0), none, none]
def T_L_places_6 : List (Option GE) := [some (.aload_n 0, 193, 0, 0, 0, 0, 0), some (.invokevirtual 132, 196, 116, 1, 0, 0, 0), none, none, some (.iload 12, 198, 0, 0, 0, 0, 0), none, some (.iconst 1, 199, 1, 0, 0, 0, 0), some (.iadd, 200, 0, 0, 0, 0, 0), some (.if_icmp .ne 60, 203, 260, 0, 0, 0, 0), none, none, some (.aload_n 0, 204, 0, 0, 0, 0, 0), some (.iload 12, 206, 0, 0, 0, 0, 0), none, some (.invokestatic 233, 209, 171, 2, 1, 6, 0), none, none, some (.iload 5, 211, 0, 0, 0, 0, 0), none, some (.if_icmp .ne 49, 214, 260, 0, 0, 0, 0), none, none, some (.aload_n 0, 215, 0, 0, 0, 0, 0), some (.invokevirtual 185, 218, 130, 1, 0, 0, 0), none, none, some (.iconst 1, 219, 1, 0, 0, 0, 0), some (.iload 5, 221, 0, 0, 0, 0, 0), none, some (.isub, 222, 0, 0, 0, 0, 0), some (.if_icmp .ne 38, 225, 260, 0, 0, 0, 0), none]
def T_L_places_7 : List (Option GE) := [none, some (.aload_n 0, 226, 0, 0, 0, 0, 0), some (.iload 5, 228, 0, 0, 0, 0, 0), none, some (.invokestatic 201, 231, 179, 2, 1, 6, 0), none, none, some (.iload 8, 233, 0, 0, 0, 0, 0), none, some (.if_icmp .ne 27, 236, 260, 0, 0, 0, 0), none, none, some (.aload_n 0, 237, 0, 0, 0, 0, 0), some (.iconst 1, 238, 1, 0, 0, 0, 0), some (.iload 5, 240, 0, 0, 0, 0, 0), none, some (.isub, 241, 0, 0, 0, 0, 0), some (.invokestatic 201, 244, 179, 2, 1, 6, 0), none, none, some (.iload 9, 246, 0, 0, 0, 0, 0), none, some (.if_icmp .ne 14, 249, 260, 0, 0, 0, 0), none, none, some (.iload 9, 251, 0, 0, 0, 0, 0), none, some (.iload 10, 253, 0, 0, 0, 0, 0), none, some (.if_icmp .gt 7, 256, 260, 0, 0, 0, 0), none, none]
def T_L_places_8 : List (Option GE) := [some (.iconst 1, 257, 1, 0, 0, 0, 0), some (.goto 4, 260, 261, 0, 0, 0, 0), none, none, some (.iconst 0, 261, 0, 0, 0, 0, 0), some (.ireturn, 262, 1, 0, 0, 0, 0)]
def T_L_places : List (List (Option GE)) := [T_L_places_0, T_L_places_1, T_L_places_2, T_L_places_3, T_L_places_4, T_L_places_5, T_L_places_6, T_L_places_7, T_L_places_8]
def T_L_law_0 : List (Option GE) := [none, none, some (.iload_n 1, 3, 0, 0, 0, 0, 0), some (.aload_n 0, 4, 0, 0, 0, 0, 0), some (.arraylength, 5, 0, 0, 0, 0, 0), some (.if_icmp .ge 433, 8, 438, 0, 0, 0, 0), none, none, some (.iload_n 1, 9, 0, 0, 0, 0, 0), some (.iconst 1, 10, 1, 0, 0, 0, 0), some (.if_icmp .ge 428, 13, 438, 0, 0, 0, 0), none, none, none, none, none, none, none, none, none, none, none, none, none, none, none, none, none, none, none, none, none]
def T_L_law_1 : List (Option GE) := [none, none, none, none, none, none, none, none, none, none, none, none, none, none, none, none, none, none, none, none, none, none, none, none, none, none, none, none, none, none, none, none]
def T_L_law_2 : List (Option GE) := [none, none, none, none, none, none, none, none, none, none, none, none, none, none, none, none, none, none, none, none, none, none, none, none, none, none, none, none, none, none, none, none]
def T_L_law_3 : List (Option GE) := [none, none, none, none, none, none, none, none, none, none, none, none, none, none, none, none, none, none, none, none, none, none, none, none, none, none, none, none, none, none, none, none]
def T_L_law_4 : List (Option GE) := [none, none, none, none, none, none, none, none, none, none, none, none, none, none, none, none, none, none, none, none, none, none, none, none, none, none, none, none, none, none, none, none]
def T_L_law_5 : List (Option GE) := [none, none, none, none, none, none, none, none, none, none, none, none, none, none, none, none, none, none, none, none, none, none, none, none, none, none, none, none, none, none, none, none]
def T_L_law_6 : List (Option GE) := [none, none, none, none, none, none, none, none, none, none, none, none, none, none, none, none, none, none, none, none, none, none, none, none, none, none, none, none, none, none, some (.invokestatic 264, 225, 184, 2, 2, 12, 0), none]
def T_L_law_7 : List (Option GE) := [none, some (.ifCond .eq 17, 228, 242, 0, 0, 0, 0), none, none, some (.aload_n 3, 229, 0, 0, 0, 0, 0), some (.invokevirtual 268, 232, 108, 1, 0, 0, 0), none, none, some (.ifCond .lt 10, 235, 242, 0, 0, 0, 0), none, none, some (.aload_n 3, 236, 0, 0, 0, 0, 0), some (.invokevirtual 185, 239, 130, 1, 0, 0, 0), none, none, some (.ifCond .eq 5, 242, 244, 0, 0, 0, 0), none, none, some (.iconst 0, 243, 0, 0, 0, 0, 0), some (.ireturn, 244, 1, 0, 0, 0, 0), some (.iconst 0, 245, 0, 0, 0, 0, 0), some (.istore 7, 247, 0, 0, 0, 0, 0), none, some (.iload 7, 249, 0, 0, 0, 0, 0), none, some (.bipush 22, 251, 22, 0, 0, 0, 0), none, some (.if_icmp .ge 36, 254, 287, 0, 0, 0, 0), none, none, some (.aload_n 3, 255, 0, 0, 0, 0, 0), some (.aload_n 2, 256, 0, 0, 0, 0, 0)]
def T_L_law_8 : List (Option GE) := [some (.invokestatic 271, 259, 187, 2, 73, 438, 0), none, none, some (.ifCond .ne 5, 262, 264, 0, 0, 0, 0), none, none, some (.iconst 0, 263, 0, 0, 0, 0, 0), some (.ireturn, 264, 1, 0, 0, 0, 0), some (.iload 7, 266, 0, 0, 0, 0, 0), none, some (.bipush 7, 268, 7, 0, 0, 0, 0), none, some (.irem, 269, 0, 0, 0, 0, 0), some (.ifCond .ne 12, 272, 281, 0, 0, 0, 0), none, none, some (.aload_n 3, 273, 0, 0, 0, 0, 0), some (.invokestatic 275, 276, 186, 1, 28, 168, 0), none, none, some (.ifCond .ne 5, 279, 281, 0, 0, 0, 0), none, none, some (.iconst 0, 280, 0, 0, 0, 0, 0), some (.ireturn, 281, 1, 0, 0, 0, 0), some (.iinc 7 1, 284, 1, 0, 0, 0, 0), none, none, some (.goto (-37), 287, 247, 0, 0, 0, 0), none, none, some (.aload_n 3, 288, 0, 0, 0, 0, 0)]
def T_L_law_9 : List (Option GE) := [some (.invokestatic 275, 291, 186, 1, 28, 168, 0), none, none, some (.ifCond .ne 5, 294, 296, 0, 0, 0, 0), none, none, some (.iconst 0, 295, 0, 0, 0, 0, 0), some (.ireturn, 296, 1, 0, 0, 0, 0), some (.aload_n 3, 297, 0, 0, 0, 0, 0), some (.invokevirtual 132, 300, 116, 1, 0, 0, 0), none, none, some (.istore 7, 302, 0, 0, 0, 0, 0), none, some (.aload_n 3, 303, 0, 0, 0, 0, 0), some (.iconst 0, 304, 0, 0, 0, 0, 0), some (.invokestatic 159, 307, 173, 2, 1, 6, 0), none, none, some (.aload_n 3, 308, 0, 0, 0, 0, 0), some (.iconst 1, 309, 1, 0, 0, 0, 0), some (.invokestatic 159, 312, 173, 2, 1, 6, 0), none, none, some (.isub, 313, 0, 0, 0, 0, 0), some (.istore 8, 315, 0, 0, 0, 0, 0), none, some (.aload_n 3, 316, 0, 0, 0, 0, 0), some (.invokevirtual 279, 319, 119, 1, 0, 0, 0), none, none, some (.istore 9, 321, 0, 0, 0, 0, 0)]
def T_L_law_10 : List (Option GE) := [none, some (.aload_n 3, 322, 0, 0, 0, 0, 0), some (.invokevirtual 185, 325, 130, 1, 0, 0, 0), none, none, some (.istore 10, 327, 0, 0, 0, 0, 0), none, some (.iload 10, 329, 0, 0, 0, 0, 0), none, some (.iconst (-1), 330, 1, 1, 0, 0, 0), some (.if_icmp .ne 6, 333, 336, 0, 0, 0, 0), none, none, some (.goto 99, 336, 432, 0, 0, 0, 0), none, none, some (.iload 9, 338, 0, 0, 0, 0, 0), none, some (.istore 11, 340, 0, 0, 0, 0, 0), none, some (.aload_n 3, 341, 0, 0, 0, 0, 0), some (.aload_n 2, 342, 0, 0, 0, 0, 0), some (.invokestatic 271, 345, 187, 2, 73, 438, 0), none, none, some (.ifCond .ne 5, 348, 350, 0, 0, 0, 0), none, none, some (.iconst 0, 349, 0, 0, 0, 0, 0), some (.ireturn, 350, 1, 0, 0, 0, 0), some (.aload_n 3, 351, 0, 0, 0, 0, 0), some (.invokevirtual 185, 354, 130, 1, 0, 0, 0)]
def T_L_law_11 : List (Option GE) := [none, none, some (.iload 10, 356, 0, 0, 0, 0, 0), none, some (.if_icmp .eq 7, 359, 363, 0, 0, 0, 0), none, none, some (.iconst 1, 360, 1, 0, 0, 0, 0), some (.goto 4, 363, 364, 0, 0, 0, 0), none, none, some (.iconst 0, 364, 0, 0, 0, 0, 0), some (.istore 12, 366, 0, 0, 0, 0, 0), none, some (.iload 12, 368, 0, 0, 0, 0, 0), none, some (.ifCond .eq 21, 371, 389, 0, 0, 0, 0), none, none, some (.aload_n 3, 372, 0, 0, 0, 0, 0), some (.invokestatic 282, 375, 162, 1, 1, 6, 0), none, none, some (.bipush 8, 377, 8, 0, 0, 0, 0), none, some (.iload 11, 379, 0, 0, 0, 0, 0), none, some (.iconst 1, 380, 1, 0, 0, 0, 0), some (.iadd, 381, 0, 0, 0, 0, 0), some (.invokestatic 284, 384, 0, 0, 0, 0, 20), none, none]
def T_L_law_12 : List (Option GE) := [some (.iconst 1, 385, 1, 0, 0, 0, 0), some (.isub, 386, 0, 0, 0, 0, 0), some (.if_icmp .ne 44, 389, 430, 0, 0, 0, 0), none, none, some (.aload_n 3, 390, 0, 0, 0, 0, 0), some (.invokevirtual 132, 393, 116, 1, 0, 0, 0), none, none, some (.iload 7, 395, 0, 0, 0, 0, 0), none, some (.if_icmp .ne 35, 398, 430, 0, 0, 0, 0), none, none, some (.aload_n 3, 399, 0, 0, 0, 0, 0), some (.iconst 0, 400, 0, 0, 0, 0, 0), some (.invokestatic 159, 403, 173, 2, 1, 6, 0), none, none, some (.aload_n 3, 404, 0, 0, 0, 0, 0), some (.iconst 1, 405, 1, 0, 0, 0, 0), some (.invokestatic 159, 408, 173, 2, 1, 6, 0), none, none, some (.isub, 409, 0, 0, 0, 0, 0), some (.iload 8, 411, 0, 0, 0, 0, 0), none, some (.if_icmp .ne 19, 414, 430, 0, 0, 0, 0), none, none, some (.aload_n 3, 415, 0, 0, 0, 0, 0), some (.invokevirtual 185, 418, 130, 1, 0, 0, 0)]
def T_L_law_13 : List (Option GE) := [none, none, some (.iload 10, 420, 0, 0, 0, 0, 0), none, some (.if_icmp .ne 10, 423, 430, 0, 0, 0, 0), none, none, some (.aload_n 3, 424, 0, 0, 0, 0, 0), some (.invokestatic 275, 427, 186, 1, 28, 168, 0), none, none, some (.ifCond .ne 5, 430, 432, 0, 0, 0, 0), none, none, some (.iconst 0, 431, 0, 0, 0, 0, 0), some (.ireturn, 432, 1, 0, 0, 0, 0), some (.iinc 1 1, 435, 1, 0, 0, 0, 0), none, none, some (.goto (-433), 438, 2, 0, 0, 0, 0), none, none, some (.iconst 1, 439, 1, 0, 0, 0, 0), some (.ireturn, 440, 1, 0, 0, 0, 0)]
def T_L_law : List (List (Option GE)) := [T_L_law_0, T_L_law_1, T_L_law_2, T_L_law_3, T_L_law_4, T_L_law_5, T_L_law_6, T_L_law_7, T_L_law_8, T_L_law_9, T_L_law_10, T_L_law_11, T_L_law_12, T_L_law_13]
def gTabs : List (List (List (Option GE))) := [T_Ch_init, T_Ch_search, T_Ch_searchShape, T_Ch_take, T_Cr_init, T_Cr_mostFor, T_Cr_countShape, T_Cr_countEdge, T_Fp_init, T_Fp_turn, T_Fp_moveTo, T_Fp_startAll, T_Fp_advance, T_Fp_columnOf, T_Fp_rowOf, T_Fp_edgeColumnOf, T_Fp_edgeRowOf, T_Fp_sideOf, T_Fp_findEdges, T_Hi_init, T_Hi_remember, T_Hi_bringBack, T_Pi_init, T_Pi_copyFrom, T_Pi_add, T_Pi_has, T_Pi_shapeOf, T_Pi_rotationOf, T_Pi_anchorColumnOf, T_Pi_anchorRowOf, T_Pi_ownerOf, T_Pi_pointsOf, T_Pl_init, T_Pl_clear, T_Pl_copyFrom, T_Pl_addLetter, T_Pl_hasNameOf, T_Pl_supplyOf, T_Pl_setSupply, T_Rd_init, T_Rd_hasRoom, T_Rd_writeText, T_Rd_writeFour, T_Rd_writeByte, T_Rd_startSetup, T_Rd_readSetup, T_Rd_readCommands, T_Rd_readSize, T_Rd_readBlocks, T_Rd_readFreeStraps, T_Rd_readPlayer, T_Rd_readName, T_Rd_readPiece, T_Rd_readStrap, T_Rd_readEdge, T_Rd_shapeOfToken, T_Rd_expectNumber, T_Rd_endStatement, T_Rd_fail, T_Rd_nextToken, T_Rd_endOfRun, T_Rd_valueOfToken, T_Rd_wordIs, T_Rd_byteAt, T_Rd_clear, T_Rg_init, T_Rg_survey, T_Rg_sizeOf, T_Rg_sizeAt, T_Rg_spreadFrom, T_Rg_reach, T_St_init, T_St_clear, T_St_copyFrom, T_St_isFinished, T_St_playerOf, T_St_allowsPiece, T_St_putPiece, T_St_allowsStrap, T_St_putStrap, T_St_allowsPass, T_St_skipTurn, T_St_countMoves, T_St_endTurn, T_Tk_init, T_Tk_clear, T_Tk_copyFrom, T_Tk_holds, T_Tk_holdsEdge, T_Tk_cellAt, T_Tk_setCell, T_Tk_strapAt, T_Tk_setStrap, T_Tk_cellBeyond, T_Tk_isEdgeBlocked, T_Tk_isEdgeCovered, T_Tk_countEmptyIn, T_Tk_countCells, T_Tk_countCovered, T_Tk_countStraps, T_Tk_misfitOf, T_Tk_isCrossedBy, T_Tk_findNext, T_Tk_countFitting, T_Tk_pointsOf, T_TD_init, T_TD_append, T_TD_truncateInput, T_TD_load, T_TD_place, T_TD_fastenStrap, T_TD_pass, T_TD_undo, T_TD_columns, T_TD_rows, T_TD_emptyCells, T_TD_pieceCount, T_TD_strapCount, T_TD_completeRows, T_TD_undoableChanges, T_TD_isBlocked, T_TD_pieceAt, T_TD_hasStrap, T_TD_emptyInRow, T_TD_pieceShape, T_TD_pieceRotation, T_TD_pieceColumn, T_TD_pieceRow, T_TD_pieceOwner, T_TD_piecePoints, T_TD_playerToMove, T_TD_isOver, T_TD_leader, T_TD_score, T_TD_supply, T_TD_strapsLeft, T_TD_fits, T_TD_misfitReason, T_TD_pointsFor, T_TD_mobility, T_TD_mobilityAfter, T_TD_bestShape, T_TD_bestRotation, T_TD_bestColumn, T_TD_bestRow, T_TD_bestStrapEffect, T_TD_regionCount, T_TD_largestRegion, T_TD_regionSize, T_TD_isDead, T_TD_deadCells, T_TD_inconsistencies, T_TD_aimAt, T_TD_requireShape, T_TD_requirePlayer, T_TD_requireCell, T_TD_requireEdge, T_TD_requirePiece, T_L_truncateInput, T_L_place, T_L_fastenStrap, T_L_pass, T_L_undo, T_L_isBlocked, T_L_pieceAt, T_L_hasStrap, T_L_emptyInRow, T_L_pieceShape, T_L_pieceRotation, T_L_pieceColumn, T_L_pieceRow, T_L_pieceOwner, T_L_piecePoints, T_L_score, T_L_supply, T_L_strapsLeft, T_L_fits, T_L_misfitReason, T_L_pointsFor, T_L_mobility, T_L_mobilityAfter, T_L_regionSize, T_L_isDead, T_L_word, T_L_write, T_L_draw, T_L_isSound, T_L_moves, T_L_places, T_L_law]
def gTab (m : Nat) : List (List (Option GE)) := gTabs.getD m []
def gHds : List GHd := [[], [], [], [], [], [], [], [], [], [], [], [], [], [], [], [], [], [], [], [], [], [], [], [], [], [], [], [], [], [], [], [], [], [], [], [], [], [], [], [], [], [], [], [], [], [], [], [], [], [], [], [], [], [], [], [], [], [], [], [], [], [], [], [], [], [], [], [], [], [], [], [], [], [], [], [], [], [], [], [], [], [], [], [], [], [], [], [], [], [], [], [], [], [], [], [], [], [], [], [], [], [], [], [], [], [], [], [], [], [], [], [], [], [], [], [], [], [], [], [], [], [], [], [], [], [], [], [], [], [], [], [], [], [], [], [], [], [], [], [], [], [], [], [], [], [], [], [], [], [], [], [], [], [], [], [], [], [], Hd_L_truncateInput, Hd_L_place, Hd_L_fastenStrap, Hd_L_pass, Hd_L_undo, Hd_L_isBlocked, Hd_L_pieceAt, Hd_L_hasStrap, Hd_L_emptyInRow, Hd_L_pieceShape, Hd_L_pieceRotation, Hd_L_pieceColumn, Hd_L_pieceRow, Hd_L_pieceOwner, Hd_L_piecePoints, Hd_L_score, Hd_L_supply, Hd_L_strapsLeft, Hd_L_fits, Hd_L_misfitReason, Hd_L_pointsFor, Hd_L_mobility, Hd_L_mobilityAfter, Hd_L_regionSize, Hd_L_isDead, [], [], [], [], [], [], []]
def gHh (m : Nat) : GHd := gHds.getD m []
def gHTs : List (List (Nat × Nat × Nat × Nat)) := [[], [], [], [], [], [], [], [], [], [], [], [], [], [], [], [], [], [], [], [], [], [], [], [], [], [], [], [], [], [], [], [], [], [], [], [], [], [], [], [], [], [], [], [], [], [], [], [], [], [], [], [], [], [], [], [], [], [], [], [], [], [], [], [], [], [], [], [], [], [], [], [], [], [], [], [], [], [], [], [], [], [], [], [], [], [], [], [], [], [], [], [], [], [], [], [], [], [], [], [], [], [], [], [], [], [], [], [], [], [], [], [], [], [], [], [], [], [], [], [], [], [], [], [], [], [], [], [], [], [], [], [], [], [], [], [], [], [], [], [], [], [], [], [], [], [], [], [], [], [], [], [], [], [], [], [], [], [], [(0, 5, 6, 13)], [(0, 9, 10, 13), (0, 9, 15, 19), (0, 9, 20, 21)], [(0, 7, 8, 13), (0, 7, 13, 19), (0, 7, 18, 21)], [(0, 4, 5, 21)], [(0, 4, 5, 21)], [(0, 14, 15, 19)], [(0, 6, 7, 19)], [(0, 15, 16, 13), (0, 15, 21, 19)], [(0, 5, 6, 19)], [(0, 5, 6, 19)], [(0, 5, 6, 19)], [(0, 5, 6, 19)], [(0, 5, 6, 19)], [(0, 5, 6, 19)], [(0, 5, 6, 19)], [(0, 5, 6, 19)], [(0, 6, 7, 19), (0, 6, 11, 13)], [(0, 5, 6, 19)], [(0, 17, 18, 13), (0, 17, 23, 19)], [(0, 9, 10, 13), (0, 9, 15, 19)], [(0, 9, 10, 13), (0, 9, 15, 19)], [(0, 5, 6, 19)], [(0, 11, 12, 13), (0, 11, 17, 19)], [(0, 6, 7, 19)], [(0, 14, 15, 19)], [], [], [], [], [], [], []]
def gHT (m : Nat) : List (Nat × Nat × Nat × Nat) := gHTs.getD m []
/-- class, name, descriptor; code; locals; answer; cells, slots, frames, locals that it may need -/
abbrev GM : Type := MethodName × ByteArray × Nat × Option FieldType × Nat × Nat × Nat × Nat
def gMs_0 : List GM := [(yX0_init, cX0_init, 1, none, 0, 0, 2, 44), (yX0_search, cX0_search, 4, none, 0, 0, 7, 163), (yX0_searchShape, cX0_searchShape, 5, none, 0, 0, 6, 139), (yX0_take, cX0_take, 3, none, 0, 0, 2, 44), (yX1_init, cX1_init, 1, none, 1, 128, 2, 44), (yX1_mostFor, cX1_mostFor, 6, (some .int), 0, 0, 7, 166), (yX1_countShape, cX1_countShape, 8, none, 0, 0, 6, 139), (yX1_countEdge, cX1_countEdge, 5, none, 0, 0, 2, 44), (yX2_init, cX2_init, 1, none, 5, 20, 2, 44), (yX2_turn, cX2_turn, 8, none, 0, 0, 3, 68), (yX2_moveTo, cX2_moveTo, 3, none, 0, 0, 2, 44), (yX2_startAll, cX2_startAll, 2, none, 0, 0, 4, 95), (yX2_advance, cX2_advance, 3, (some .boolean), 0, 0, 4, 95), (yX2_columnOf, cX2_columnOf, 2, (some .int), 0, 0, 2, 44), (yX2_rowOf, cX2_rowOf, 2, (some .int), 0, 0, 2, 44), (yX2_edgeColumnOf, cX2_edgeColumnOf, 2, (some .int), 0, 0, 2, 44), (yX2_edgeRowOf, cX2_edgeRowOf, 2, (some .int), 0, 0, 2, 44), (yX2_sideOf, cX2_sideOf, 2, (some .int), 0, 0, 2, 44), (yX2_findEdges, cX2_findEdges, 5, none, 0, 0, 2, 44), (yX3_init, cX3_init, 2, none, 137, 3472, 4, 84), (yX3_remember, cX3_remember, 2, none, 0, 0, 4, 102), (yX3_bringBack, cX3_bringBack, 2, none, 0, 0, 4, 102), (yX4_init, cX4_init, 1, none, 6, 192, 2, 44), (yX4_copyFrom, cX4_copyFrom, 2, none, 0, 0, 2, 60), (yX4_add, cX4_add, 4, none, 0, 0, 2, 44), (yX4_has, cX4_has, 2, (some .boolean), 0, 0, 2, 44), (yX4_shapeOf, cX4_shapeOf, 2, (some .int), 0, 0, 3, 65), (yX4_rotationOf, cX4_rotationOf, 2, (some .int), 0, 0, 3, 65), (yX4_anchorColumnOf, cX4_anchorColumnOf, 2, (some .int), 0, 0, 3, 65), (yX4_anchorRowOf, cX4_anchorRowOf, 2, (some .int), 0, 0, 3, 65), (yX4_ownerOf, cX4_ownerOf, 2, (some .int), 0, 0, 3, 65), (yX4_pointsOf, cX4_pointsOf, 2, (some .int), 0, 0, 3, 65)]
def gMs_1 : List GM := [(yX5_init, cX5_init, 1, none, 2, 11, 2, 44), (yX5_clear, cX5_clear, 2, none, 0, 0, 2, 44), (yX5_copyFrom, cX5_copyFrom, 2, none, 0, 0, 2, 60), (yX5_addLetter, cX5_addLetter, 2, none, 0, 0, 2, 44), (yX5_hasNameOf, cX5_hasNameOf, 3, (some .boolean), 0, 0, 2, 44), (yX5_supplyOf, cX5_supplyOf, 2, (some .int), 0, 0, 2, 44), (yX5_setSupply, cX5_setSupply, 3, none, 0, 0, 2, 44), (yX6_init, cX6_init, 1, none, 24, 1064, 4, 84), (yX6_hasRoom, cX6_hasRoom, 1, (some .boolean), 0, 0, 2, 44), (yX6_writeText, cX6_writeText, 3, none, 0, 0, 6, 160), (yX6_writeFour, cX6_writeFour, 2, none, 0, 0, 3, 65), (yX6_writeByte, cX6_writeByte, 2, none, 0, 0, 2, 44), (yX6_startSetup, cX6_startSetup, 1, none, 0, 0, 4, 88), (yX6_readSetup, cX6_readSetup, 1, (some .boolean), 0, 0, 9, 223), (yX6_readCommands, cX6_readCommands, 3, (some .boolean), 0, 0, 9, 226), (yX6_readSize, cX6_readSize, 3, (some .boolean), 0, 0, 7, 182), (yX6_readBlocks, cX6_readBlocks, 4, (some .boolean), 0, 0, 7, 182), (yX6_readFreeStraps, cX6_readFreeStraps, 2, (some .boolean), 0, 0, 8, 202), (yX6_readPlayer, cX6_readPlayer, 4, (some .boolean), 0, 0, 7, 182), (yX6_readName, cX6_readName, 3, (some .boolean), 0, 0, 4, 88), (yX6_readPiece, cX6_readPiece, 5, (some .boolean), 0, 0, 8, 202), (yX6_readStrap, cX6_readStrap, 1, (some .boolean), 0, 0, 8, 202), (yX6_readEdge, cX6_readEdge, 1, (some .boolean), 0, 0, 7, 182), (yX6_shapeOfToken, cX6_shapeOfToken, 1, (some .int), 0, 0, 7, 182), (yX6_expectNumber, cX6_expectNumber, 3, (some .int), 0, 0, 4, 88), (yX6_endStatement, cX6_endStatement, 1, (some .boolean), 0, 0, 4, 88), (yX6_fail, cX6_fail, 2, (some .boolean), 0, 0, 2, 44), (yX6_nextToken, cX6_nextToken, 2, none, 0, 0, 3, 67), (yX6_endOfRun, cX6_endOfRun, 4, (some .int), 0, 0, 2, 44), (yX6_valueOfToken, cX6_valueOfToken, 3, (some .int), 0, 0, 2, 44), (yX6_wordIs, cX6_wordIs, 3, (some .boolean), 0, 0, 6, 160), (yX6_byteAt, cX6_byteAt, 2, (some .int), 0, 0, 2, 44)]
def gMs_2 : List GM := [(yX6_clear, cX6_clear, 1, none, 0, 0, 2, 44), (yX7_init, cX7_init, 1, none, 3, 192, 2, 44), (yX7_survey, cX7_survey, 4, none, 0, 0, 5, 116), (yX7_sizeOf, cX7_sizeOf, 2, (some .int), 0, 0, 2, 44), (yX7_sizeAt, cX7_sizeAt, 3, (some .int), 0, 0, 3, 65), (yX7_spreadFrom, cX7_spreadFrom, 7, none, 0, 0, 4, 90), (yX7_reach, cX7_reach, 5, none, 0, 0, 3, 66), (yX8_init, cX8_init, 1, none, 16, 427, 3, 64), (yX8_clear, cX8_clear, 3, none, 0, 0, 3, 67), (yX8_copyFrom, cX8_copyFrom, 2, none, 0, 0, 3, 81), (yX8_isFinished, cX8_isFinished, 1, (some .boolean), 0, 0, 2, 44), (yX8_playerOf, cX8_playerOf, 2, (some (.object "TrunkDuel$Player")), 0, 0, 2, 44), (yX8_allowsPiece, cX8_allowsPiece, 2, (some .boolean), 0, 0, 5, 116), (yX8_putPiece, cX8_putPiece, 5, (some .int), 0, 0, 5, 114), (yX8_allowsStrap, cX8_allowsStrap, 4, (some .boolean), 0, 0, 5, 113), (yX8_putStrap, cX8_putStrap, 5, (some .int), 0, 0, 5, 112), (yX8_allowsPass, cX8_allowsPass, 4, (some .boolean), 0, 0, 6, 139), (yX8_skipTurn, cX8_skipTurn, 1, (some .int), 0, 0, 3, 65), (yX8_countMoves, cX8_countMoves, 5, (some .int), 0, 0, 7, 162), (yX8_endTurn, cX8_endTurn, 2, none, 0, 0, 2, 44), (yX9_init, cX9_init, 1, none, 2, 192, 2, 44), (yX9_clear, cX9_clear, 4, none, 0, 0, 2, 44), (yX9_copyFrom, cX9_copyFrom, 2, none, 0, 0, 2, 60), (yX9_holds, cX9_holds, 3, (some .boolean), 0, 0, 2, 44), (yX9_holdsEdge, cX9_holdsEdge, 4, (some .boolean), 0, 0, 3, 66), (yX9_cellAt, cX9_cellAt, 3, (some .int), 0, 0, 2, 44), (yX9_setCell, cX9_setCell, 4, none, 0, 0, 3, 66), (yX9_strapAt, cX9_strapAt, 4, (some .boolean), 0, 0, 2, 44), (yX9_setStrap, cX9_setStrap, 4, none, 0, 0, 4, 89), (yX9_cellBeyond, cX9_cellBeyond, 4, (some .int), 0, 0, 3, 66), (yX9_isEdgeBlocked, cX9_isEdgeBlocked, 4, (some .boolean), 0, 0, 4, 89), (yX9_isEdgeCovered, cX9_isEdgeCovered, 5, (some .boolean), 0, 0, 4, 89)]
def gMs_3 : List GM := [(yX9_countEmptyIn, cX9_countEmptyIn, 4, (some .int), 0, 0, 3, 66), (yX9_countCells, cX9_countCells, 5, (some .int), 0, 0, 3, 66), (yX9_countCovered, cX9_countCovered, 1, (some .int), 0, 0, 4, 90), (yX9_countStraps, cX9_countStraps, 3, (some .int), 0, 0, 2, 44), (yX9_misfitOf, cX9_misfitOf, 6, (some .int), 0, 0, 4, 91), (yX9_isCrossedBy, cX9_isCrossedBy, 5, (some .boolean), 0, 0, 3, 67), (yX9_findNext, cX9_findNext, 3, (some .boolean), 0, 0, 5, 117), (yX9_countFitting, cX9_countFitting, 4, (some .int), 0, 0, 6, 139), (yX9_pointsOf, cX9_pointsOf, 6, (some .int), 0, 0, 4, 89), (yX10_init, cX10_init, 1, none, 247, 6722, 10, 248), (yX10_append, cX10_append, 6, (some .int), 0, 0, 4, 86), (yX10_truncateInput, cX10_truncateInput, 2, (some .int), 1, 6, 8, 140), (yX10_load, cX10_load, 2, (some .int), 0, 0, 10, 248), (yX10_place, cX10_place, 5, (some .int), 4, 24, 10, 186), (yX10_fastenStrap, cX10_fastenStrap, 4, (some .int), 3, 18, 9, 163), (yX10_pass, cX10_pass, 1, (some .int), 1, 6, 8, 162), (yX10_undo, cX10_undo, 1, (some .int), 1, 6, 8, 140), (yX10_columns, cX10_columns, 1, (some .int), 0, 0, 2, 44), (yX10_rows, cX10_rows, 1, (some .int), 0, 0, 2, 44), (yX10_emptyCells, cX10_emptyCells, 1, (some .int), 0, 0, 4, 90), (yX10_pieceCount, cX10_pieceCount, 1, (some .int), 0, 0, 2, 44), (yX10_strapCount, cX10_strapCount, 1, (some .int), 0, 0, 3, 66), (yX10_completeRows, cX10_completeRows, 3, (some .int), 0, 0, 4, 89), (yX10_undoableChanges, cX10_undoableChanges, 1, (some .int), 0, 0, 2, 44), (yX10_isBlocked, cX10_isBlocked, 3, (some .boolean), 1, 6, 9, 162), (yX10_pieceAt, cX10_pieceAt, 4, (some .int), 1, 6, 9, 162), (yX10_hasStrap, cX10_hasStrap, 4, (some .boolean), 2, 12, 9, 163), (yX10_emptyInRow, cX10_emptyInRow, 2, (some .int), 1, 6, 8, 140), (yX10_pieceShape, cX10_pieceShape, 2, (some .int), 1, 6, 9, 161), (yX10_pieceRotation, cX10_pieceRotation, 2, (some .int), 1, 6, 9, 161), (yX10_pieceColumn, cX10_pieceColumn, 2, (some .int), 1, 6, 9, 161), (yX10_pieceRow, cX10_pieceRow, 2, (some .int), 1, 6, 9, 161)]
def gMs_4 : List GM := [(yX10_pieceOwner, cX10_pieceOwner, 2, (some .int), 1, 6, 9, 161), (yX10_piecePoints, cX10_piecePoints, 2, (some .int), 1, 6, 9, 161), (yX10_playerToMove, cX10_playerToMove, 1, (some .int), 0, 0, 3, 64), (yX10_isOver, cX10_isOver, 1, (some .boolean), 0, 0, 3, 64), (yX10_leader, cX10_leader, 2, (some .int), 0, 0, 2, 44), (yX10_score, cX10_score, 2, (some .int), 1, 6, 9, 160), (yX10_supply, cX10_supply, 3, (some .int), 2, 12, 9, 160), (yX10_strapsLeft, cX10_strapsLeft, 2, (some .int), 1, 6, 9, 160), (yX10_fits, cX10_fits, 5, (some .boolean), 3, 18, 10, 186), (yX10_misfitReason, cX10_misfitReason, 5, (some .int), 3, 18, 10, 186), (yX10_pointsFor, cX10_pointsFor, 5, (some .int), 3, 18, 10, 186), (yX10_mobility, cX10_mobility, 2, (some .int), 1, 6, 9, 186), (yX10_mobilityAfter, cX10_mobilityAfter, 6, (some .int), 4, 24, 10, 186), (yX10_bestShape, cX10_bestShape, 1, (some .int), 0, 0, 8, 186), (yX10_bestRotation, cX10_bestRotation, 1, (some .int), 0, 0, 8, 186), (yX10_bestColumn, cX10_bestColumn, 1, (some .int), 0, 0, 8, 186), (yX10_bestRow, cX10_bestRow, 1, (some .int), 0, 0, 8, 186), (yX10_bestStrapEffect, cX10_bestStrapEffect, 1, (some .int), 0, 0, 8, 191), (yX10_regionCount, cX10_regionCount, 1, (some .int), 0, 0, 6, 139), (yX10_largestRegion, cX10_largestRegion, 3, (some .int), 0, 0, 6, 139), (yX10_regionSize, cX10_regionSize, 3, (some .int), 1, 6, 9, 162), (yX10_isDead, cX10_isDead, 3, (some .boolean), 1, 6, 9, 162), (yX10_deadCells, cX10_deadCells, 3, (some .int), 0, 0, 6, 139), (yX10_inconsistencies, cX10_inconsistencies, 6, (some .int), 0, 0, 5, 110), (yX10_aimAt, cX10_aimAt, 5, none, 3, 18, 9, 162), (yX10_requireShape, cX10_requireShape, 1, none, 1, 6, 8, 140), (yX10_requirePlayer, cX10_requirePlayer, 1, none, 1, 6, 8, 140), (yX10_requireCell, cX10_requireCell, 3, none, 1, 6, 8, 140), (yX10_requireEdge, cX10_requireEdge, 4, none, 2, 12, 8, 140), (yX10_requirePiece, cX10_requirePiece, 2, none, 1, 6, 8, 140), (yL_truncateInput, cL_truncateInput, 3, (some .int), 1, 6, 9, 161), (yL_place, cL_place, 6, (some .int), 4, 24, 11, 210)]
def gMs_5 : List GM := [(yL_fastenStrap, cL_fastenStrap, 5, (some .int), 3, 18, 10, 186), (yL_pass, cL_pass, 2, (some .int), 1, 6, 9, 182), (yL_undo, cL_undo, 2, (some .int), 1, 6, 9, 160), (yL_isBlocked, cL_isBlocked, 4, (some .int), 1, 6, 10, 184), (yL_pieceAt, cL_pieceAt, 4, (some .int), 1, 6, 10, 185), (yL_hasStrap, cL_hasStrap, 5, (some .int), 2, 12, 10, 186), (yL_emptyInRow, cL_emptyInRow, 3, (some .int), 1, 6, 9, 161), (yL_pieceShape, cL_pieceShape, 3, (some .int), 1, 6, 10, 182), (yL_pieceRotation, cL_pieceRotation, 3, (some .int), 1, 6, 10, 182), (yL_pieceColumn, cL_pieceColumn, 3, (some .int), 1, 6, 10, 182), (yL_pieceRow, cL_pieceRow, 3, (some .int), 1, 6, 10, 182), (yL_pieceOwner, cL_pieceOwner, 3, (some .int), 1, 6, 10, 182), (yL_piecePoints, cL_piecePoints, 3, (some .int), 1, 6, 10, 182), (yL_score, cL_score, 3, (some .int), 1, 6, 10, 181), (yL_supply, cL_supply, 4, (some .int), 2, 12, 10, 182), (yL_strapsLeft, cL_strapsLeft, 3, (some .int), 1, 6, 10, 181), (yL_fits, cL_fits, 6, (some .int), 3, 18, 11, 210), (yL_misfitReason, cL_misfitReason, 6, (some .int), 3, 18, 11, 210), (yL_pointsFor, cL_pointsFor, 6, (some .int), 3, 18, 11, 210), (yL_mobility, cL_mobility, 3, (some .int), 1, 6, 10, 207), (yL_mobilityAfter, cL_mobilityAfter, 7, (some .int), 4, 24, 11, 211), (yL_regionSize, cL_regionSize, 4, (some .int), 1, 6, 10, 184), (yL_isDead, cL_isDead, 4, (some .int), 1, 6, 10, 184), (yL_word, cL_word, 4, (some .int), 0, 0, 6, 160), (yL_write, cL_write, 3, (some .boolean), 2, 12, 10, 183), (yL_draw, cL_draw, 2, (some .int), 0, 0, 2, 44), (yL_isSound, cL_isSound, 13, (some .boolean), 28, 168, 12, 235), (yL_moves, cL_moves, 13, (some .boolean), 73, 438, 13, 271), (yL_places, cL_places, 15, (some .boolean), 26, 156, 12, 237), (yL_law, cL_law, 9, (some .boolean), 600086, 7301442, 14, 303)]
def gMs : List GM := gMs_0 ++ gMs_1 ++ gMs_2 ++ gMs_3 ++ gMs_4 ++ gMs_5
def gM0 : GM := (⟨"", "", ""⟩, ⟨#[]⟩, 0, none, 0, 0, 0, 0)
def gM (m : Nat) : GM := gMs.getD m gM0
def gY (m : Nat) : MethodName := (gM m).1
def gCode (m : Nat) : ByteArray := (gM m).2.1
def gMaxL (m : Nat) : Nat := (gM m).2.2.1
def gRet (m : Nat) : Option FieldType := (gM m).2.2.2.1
def gCells (m : Nat) : Nat := (gM m).2.2.2.2.1
def gSlots (m : Nat) : Nat := (gM m).2.2.2.2.2.1
def gFrames (m : Nat) : Nat := (gM m).2.2.2.2.2.2.1
def gLocs (m : Nat) : Nat := (gM m).2.2.2.2.2.2.2
def gClss : List Nat := [0, 0, 0, 0, 1, 1, 1, 1, 2, 2, 2, 2, 2, 2, 2, 2, 2, 2, 2, 3, 3, 3, 4, 4, 4, 4, 4, 4, 4, 4, 4, 4, 5, 5, 5, 5, 5, 5, 5, 6, 6, 6, 6, 6, 6, 6, 6, 6, 6, 6, 6, 6, 6, 6, 6, 6, 6, 6, 6, 6, 6, 6, 6, 6, 6, 7, 7, 7, 7, 7, 7, 8, 8, 8, 8, 8, 8, 8, 8, 8, 8, 8, 8, 8, 9, 9, 9, 9, 9, 9, 9, 9, 9, 9, 9, 9, 9, 9, 9, 9, 9, 9, 9, 9, 9, 10, 10, 10, 10, 10, 10, 10, 10, 10, 10, 10, 10, 10, 10, 10, 10, 10, 10, 10, 10, 10, 10, 10, 10, 10, 10, 10, 10, 10, 10, 10, 10, 10, 10, 10, 10, 10, 10, 10, 10, 10, 10, 10, 10, 10, 10, 10, 10, 10, 10, 10, 10, 10, 12, 12, 12, 12, 12, 12, 12, 12, 12, 12, 12, 12, 12, 12, 12, 12, 12, 12, 12, 12, 12, 12, 12, 12, 12, 12, 12, 12, 12, 12, 12, 12]
def gCls (m : Nat) : Nat := gClss.getD m 99
def gExc : Nat → String
  | 0 => "java/lang/IllegalArgumentException"
  | 1 => "java/lang/IndexOutOfBoundsException"
  | _ => "java/lang/IllegalStateException"
def gBlk : Nat → List Value
  | 0 => [.int 0, .int 0, .int 0, .int 0, .int 0]
  | 1 => [.null]
  | 2 => [.int 0, .int 0, .int 0, .int 0, .int 0, .int 0, .null, .null, .null, .null, .null]
  | 3 => [.int 0, .int 0, .null]
  | 4 => [.int 0, .null, .null, .null, .null, .null, .null]
  | 5 => [.int 0, .int 0, .int 0, .null, .null]
  | 6 => [.int 0, .int 0, .int 0, .int 0, .null, .null, .null, .int 0, .int 0, .int 0, .int 0, .int 0, .int 0, .int 0]
  | 7 => [.int 0, .null, .null, .null, .int 0]
  | 8 => [.null, .null, .null, .null, .int 0, .int 0]
  | 9 => [.int 0, .int 0, .null, .null]
  | _ => [.null, .null, .null, .null, .null, .null, .null, .null, .null, .null, .null, .int 0]
/-- the texts of the String constants that methods read -/
def gTexts : List (List Nat) := [[116, 114, 117, 110, 107, 32, 53, 32, 52, 59, 32, 98, 108, 111, 99, 107, 32, 52, 32, 48, 59, 32, 98, 108, 111, 99, 107, 32, 48, 32, 51, 59, 32, 115, 116, 114, 97, 112, 32, 49, 32, 49, 32, 114, 105, 103, 104, 116, 59, 32, 115, 116, 114, 97, 112, 32, 50, 32, 50, 32, 98, 101, 108, 111, 119, 59, 32, 112, 108, 97, 121, 101, 114, 32, 97, 110, 110, 32, 50, 32, 50, 32, 49, 32, 49, 32, 49, 32, 49, 59, 32, 112, 108, 97, 121, 101, 114, 32, 98, 111, 98, 32, 49, 32, 51, 32, 49, 32, 48, 32, 49, 32, 50, 59], [116, 114, 117, 110, 107], [98, 108, 111, 99, 107], [115, 116, 114, 97, 112], [114, 105, 103, 104, 116], [98, 101, 108, 111, 119], [112, 108, 97, 121, 101, 114], [112, 108, 97, 99, 101], [98, 97, 114], [101, 108, 98, 111, 119], [114, 111, 100], [115, 113, 117, 97, 114, 101], [99, 111, 114, 110, 101, 114], [112, 97, 115, 115]]
def gStr : GS := fun k => if k < 100016 then none else gTexts[k - 100016]?
end
section
/-! ===== the least predicate closed under the steps; blocks of steps as one formula ===== -/
abbrev GW : Type := Nat → Nat → Nat → Nat → GL → List Value → GH → GQ → Prop
def gEntry (m : Nat) (as : List Value) : GL := as.map some ++ List.replicate (gMaxL m - as.length) none
/-- a call of method m with the arguments as -/
def gC (X : GW) : Nat → Nat → Nat → List Value → GH → GQ → Prop := fun m c d as G P => X m c d 0 (gEntry m as) [] G P
def gCx (X : GW) : Nat → Nat → Nat → List Value → GH → GQ → Prop := fun m c d as G K => ∃ P, gC X m c d as G P ∧ gLe P K
def gStep (X : GW) : GW := fun m rc rs pc ls st G Q => stepG gStr gExc gBlk gCls (gLook (gTab m)) (gHh m) (gCx X) (fun rc rs pc ls st G => X m rc rs pc ls st G Q) Q rc rs pc ls st G
/-- fewer locals known -/
def gSub (a b : GL) : Prop := a.length = b.length ∧ ∀ (i : Nat) (v : Value), a[i]? = some (some v) → b[i]? = some (some v)
def gRule (X : GW) : GW := fun m rc rs pc ls st G Q => gStep X m rc rs pc ls st G Q ∨ ∃ rc0 rs0 ls0, rc0 ≤ rc ∧ rs0 ≤ rs ∧ gSub ls0 ls ∧ X m rc0 rs0 pc ls0 st G Q
/-- from here, with these locals, this stack, this heap, the method comes to an end as Q wants it -/
def WP : GW := fun m rc rs pc ls st G Q => ∀ X : GW, (∀ m rc rs pc ls st G Q, gRule X m rc rs pc ls st G Q → X m rc rs pc ls st G Q) → X m rc rs pc ls st G Q
theorem gStep_mono {X X' : GW} (h : ∀ m rc rs pc ls st G Q, X m rc rs pc ls st G Q → X' m rc rs pc ls st G Q) (m rc rs pc : Nat) (ls : GL) (st : List Value) (G : GH) (Q : GQ) : gStep X m rc rs pc ls st G Q → gStep X' m rc rs pc ls st G Q :=
  stepG_mono (fun m c d as G K K' ⟨P, h1, h2⟩ h3 => ⟨P, h _ _ _ _ _ _ _ _ h1, h2.tr h3⟩) (fun rc rs pc ls st G => h _ _ _ _ _ _ _ _) (gLe.rf Q) _ _ _ _ _ _
theorem WP.step {m rc rs pc : Nat} {ls : GL} {st : List Value} {G : GH} {Q : GQ} (h : gStep WP m rc rs pc ls st G Q) : WP m rc rs pc ls st G Q := fun X hX => hX _ _ _ _ _ _ _ _ (Or.inl (gStep_mono (fun _ _ _ _ _ _ _ _ w => w X hX) _ _ _ _ _ _ _ _ h))
theorem WP.less {m rc rs pc : Nat} {ls : GL} {st : List Value} {G : GH} {Q : GQ} {rc0 rs0 : Nat} {ls0 : GL} (h : WP m rc0 rs0 pc ls0 st G Q) (h1 : rc0 ≤ rc) (h2 : rs0 ≤ rs) (h3 : gSub ls0 ls) : WP m rc rs pc ls st G Q := fun X hX => hX _ _ _ _ _ _ _ _ (Or.inr ⟨rc0, rs0, ls0, h1, h2, h3, h X hX⟩)
theorem gSub.rf (a : GL) : gSub a a := ⟨rfl, fun _ _ h => h⟩
theorem WP.mono {m rc rs pc : Nat} {ls : GL} {st : List Value} {G : GH} {Q Q' : GQ} (h : WP m rc rs pc ls st G Q) (hQ : gLe Q Q') : WP m rc rs pc ls st G Q' :=
  h (fun m rc rs pc ls st G Q => ∀ Q', gLe Q Q' → WP m rc rs pc ls st G Q') (fun m rc rs pc ls st G Q h Q' hQ => h.elim (fun h => WP.step (stepG_mono (fun m c d as G K K' ⟨P, h1, h2⟩ h3 => ⟨P, h1 P (gLe.rf P), h2.tr h3⟩) (fun rc rs pc ls st G w => w Q' hQ) hQ _ _ _ _ _ _ h)) (fun ⟨_, _, _, h1, h2, h3, h4⟩ => WP.less (h4 Q' hQ) h1 h2 h3)) Q' hQ
/-- a call that answers an int (or a boolean), may throw -/
def CI (m : Nat) (as : List Value) (G : GH) (K : Int32 → GH → Prop) (KX : String → GH → Prop) : Prop := gC WP m (gCells m) (gSlots m) as G (gQi K KX)
def CV (m : Nat) (as : List Value) (G : GH) (K : GH → Prop) (KX : String → GH → Prop) : Prop := gC WP m (gCells m) (gSlots m) as G (gQv K KX)
def CR (m : Nat) (as : List Value) (G : GH) (K : Nat → GH → Prop) : Prop := gC WP m (gCells m) (gSlots m) as G (gQr K)
def CD (m : Nat) (as : List Value) (G : GH) (K : UInt64 → GH → Prop) : Prop := gC WP m (gCells m) (gSlots m) as G (gQd K)
def CF (m : Nat) (as : List Value) (G : GH) (K : UInt32 → GH → Prop) : Prop := gC WP m (gCells m) (gSlots m) as G (gQf K)
/-- which locals are still known at a cut -/
def gMask : List Bool → GL → GL
  | [], ls => ls
  | _ :: _, [] => []
  | true :: bs, v :: ls => v :: gMask bs ls
  | false :: bs, _ :: ls => none :: gMask bs ls
theorem gMask_sub : ∀ (bs : List Bool) (ls : GL), gSub (gMask bs ls) ls
  | [], ls => gSub.rf ls
  | true :: _, [] => gSub.rf []
  | false :: _, [] => gSub.rf []
  | true :: bs, v :: ls => by
    obtain ⟨h1, h2⟩ := gMask_sub bs ls
    refine ⟨congrArg Nat.succ h1, fun i w h => ?_⟩
    cases i with
    | zero => exact h
    | succ i => exact h2 i w h
  | false :: bs, v :: ls => by
    obtain ⟨h1, h2⟩ := gMask_sub bs ls
    refine ⟨congrArg Nat.succ h1, fun i w h => ?_⟩
    cases i with
    | zero => cases h
    | succ i => exact h2 i w h
/-- the formula of a block of at most n steps, cut at the pcs of stop -/
def vc (T : Nat → Option GE) (hh : GHd) (stop : List (Nat × List Bool)) (m : Nat) (Q : GQ) : Nat → GX
  | 0 => fun rc rs pc ls st G => WP m rc rs pc ls st G Q
  | n + 1 => fun rc rs pc ls st G => match stop.lookup pc with
    | some bs => WP m rc rs pc (gMask bs ls) st G Q
    | none => stepG gStr gExc gBlk gCls T hh (gC WP) (vc T hh stop m Q n) Q rc rs pc ls st G
def vc1 (T : Nat → Option GE) (hh : GHd) (stop : List (Nat × List Bool)) (m : Nat) (Q : GQ) (n : Nat) : GX := fun rc rs pc ls st G => stepG gStr gExc gBlk gCls T hh (gC WP) (vc T hh stop m Q n) Q rc rs pc ls st G
theorem gC_x (m c d : Nat) (as : List Value) (G : GH) (K K' : GQ) (h : gC WP m c d as G K) (hk : gLe K K') : gCx WP m c d as G K' := ⟨K, h, hk⟩
theorem vc_ok {T : Nat → Option GE} {hh : GHd} {stop : List (Nat × List Bool)} {m : Nat} {Q : GQ} (hT : gLook (gTab m) = T) (hH : gHh m = hh) : ∀ (n rc rs pc : Nat) (ls : GL) (st : List Value) (G : GH), vc T hh stop m Q n rc rs pc ls st G → WP m rc rs pc ls st G Q
  | 0, _, _, _, _, _, _ => id
  | n + 1, rc, rs, pc, ls, st, G => by
    unfold vc
    cases stop.lookup pc with
    | none =>
      intro h
      refine WP.step ?_
      unfold gStep
      rw [hT, hH]
      exact stepG_mono (fun m c d as G K K' => gC_x m c d as G K K') (vc_ok hT hH n) (gLe.rf Q) _ _ _ _ _ _ h
    | some bs => exact fun h => WP.less h (Nat.le_refl _) (Nat.le_refl _) (gMask_sub bs ls)
theorem WP.ofV {T : List (List (Option GE))} {hh : GHd} {m : Nat} {Q : GQ} {rc rs pc : Nat} {ls : GL} {st : List Value} {G : GH} (hT : gTab m = T) (hH : gHh m = hh) (stop : List (Nat × List Bool)) (n : Nat) (h : vc1 (gLook T) hh stop m Q n rc rs pc ls st G) : WP m rc rs pc ls st G Q := by
  refine WP.step ?_
  unfold gStep
  rw [hT, hH]
  exact stepG_mono (fun m c d as G K K' => gC_x m c d as G K K') (vc_ok (by rw [hT]) hH n) (gLe.rf Q) _ _ _ _ _ _ h
theorem CI.mono {m : Nat} {as : List Value} {G : GH} {K K' : Int32 → GH → Prop} {KX KX' : String → GH → Prop} (h : CI m as G K KX) (h1 : ∀ x G, K x G → K' x G) (h2 : ∀ x G, KX x G → KX' x G) : CI m as G K' KX' := WP.mono h ⟨h1, fun _ h => h, fun _ _ h => h, fun _ _ h => h, fun _ _ h => h, h2⟩
theorem CV.mono {m : Nat} {as : List Value} {G : GH} {K K' : GH → Prop} {KX KX' : String → GH → Prop} (h : CV m as G K KX) (h1 : ∀ G, K G → K' G) (h2 : ∀ x G, KX x G → KX' x G) : CV m as G K' KX' := WP.mono h ⟨fun _ _ h => h, h1, fun _ _ h => h, fun _ _ h => h, fun _ _ h => h, h2⟩
theorem CI.of {m : Nat} {as : List Value} {G : GH} {K : Int32 → GH → Prop} {KX : String → GH → Prop} {ls : GL} {rc rs : Nat} (hc : gCells m = rc) (hs : gSlots m = rs) (hl : gEntry m as = ls) (h : WP m rc rs 0 ls [] G (gQi K KX)) : CI m as G K KX := by
  subst hc; subst hs; subst hl; exact h
theorem CV.of {m : Nat} {as : List Value} {G : GH} {K : GH → Prop} {KX : String → GH → Prop} {ls : GL} {rc rs : Nat} (hc : gCells m = rc) (hs : gSlots m = rs) (hl : gEntry m as = ls) (h : WP m rc rs 0 ls [] G (gQv K KX)) : CV m as G K KX := by
  subst hc; subst hs; subst hl; exact h
theorem CR.of {m : Nat} {as : List Value} {G : GH} {K : Nat → GH → Prop} {ls : GL} {rc rs : Nat} (hc : gCells m = rc) (hs : gSlots m = rs) (hl : gEntry m as = ls) (h : WP m rc rs 0 ls [] G (gQr K)) : CR m as G K := by
  subst hc; subst hs; subst hl; exact h
theorem CD.of {m : Nat} {as : List Value} {G : GH} {K : UInt64 → GH → Prop} {ls : GL} {rc rs : Nat} (hc : gCells m = rc) (hs : gSlots m = rs) (hl : gEntry m as = ls) (h : WP m rc rs 0 ls [] G (gQd K)) : CD m as G K := by
  subst hc; subst hs; subst hl; exact h
theorem CF.of {m : Nat} {as : List Value} {G : GH} {K : UInt32 → GH → Prop} {ls : GL} {rc rs : Nat} (hc : gCells m = rc) (hs : gSlots m = rs) (hl : gEntry m as = ls) (h : WP m rc rs 0 ls [] G (gQf K)) : CF m as G K := by
  subst hc; subst hs; subst hl; exact h
end
section
/-! ===== the ghost heap in the machine's heap ===== -/
def gTy : List FieldType := [.int, .boolean, .long, .object "TrunkDuel$State"]
def gTys (cA : FieldType → ClassId) : List (ClassId × FieldType) := gTy.map fun t => (cA t, t)
/-- what may be written: the tracked cells, and what comes from ro 99999 on -/
def gA (z : Nat) (ro : Nat → Nat) : Nat → Prop := fun q => z ≤ q ∧ (q < z + 249 ∨ ro 99999 ≤ q)
/-- the drawn text -/
abbrev gDY : Nat := 100004
/-- what a read-only cell is -/
def gRt (k : Nat) : FieldType := if k = gDY then .byte else .int
def gAd (z : Nat) (ro : Nat → Nat) (k : Nat) : Nat := if k < gRB then z + k else ro k
def gv (z : Nat) (ro : Nat → Nat) (v : Value) : Value := match v with
  | .ref k => .ref (gAd z ro k)
  | v => v
def gAr (z : Nat) (ro : Nat → Nat) (a : vp_A) : vp_A := match a with
  | (n, .inl f) => (n, .inl f)
  | (n, .inr (.inl f)) => (n, .inr (.inl f))
  | (n, .inr (.inr (.inl f))) => (n, .inr (.inr (.inl f)))
  | (n, .inr (.inr (.inr (.inl f)))) => (n, .inr (.inr (.inr (.inl f))))
  | (n, .inr (.inr (.inr (.inr f)))) => (n, .inr (.inr (.inr (.inr fun j => (f j).map (gAd z ro)))))
def gCell (z : Nat) (ro : Nat → Nat) (cA : FieldType → ClassId) (c : GC) : va_E := match c with
  | .inl (ci, fs) => .inr (ci, fs.map (gv z ro))
  | .inr (ty, a) => .inl (cA ty, gAr z ro a)
def gWorld (z : Nat) (ro : Nat → Nat) (cA : FieldType → ClassId) (G : GH) (n : Nat) : va_W := (List.range (n + 1)).map fun i => (z + i, gCell z ro cA ((G.2 i).getD (.inl (0, []))))
def gRep (z : Nat) (ro : Nat → Nat) (cA : FieldType → ClassId) (D : va_G) (roArr : Nat → Option (Nat × (Nat → Int32))) (G : GH) (H : Heap) : Prop :=
  ∃ n, n < gRB ∧ (∀ k, k < gRB → ((∃ c, G.2 k = some c) ↔ k ≤ n)) ∧ ((n ≤ 248 ∨ ro 99999 = 0) ∧ (0 < G.1 → G.1 = n + 1 ∧ H.size = z + n + 1 ∧ ro 99999 = 0)) ∧ va_P D vwCl (gWorld z ro cA G n) H ∧ (∀ k, gRB ≤ k → G.2 k = (roArr k).map fun q => .inr (gRt k, q.1, .inl q.2)) ∧
    (∀ k ci fs, k < gRB → G.2 k = some (.inl (ci, fs)) → ∃ q, vwCl[ci]? = some q ∧ fs.length = q.2.2)
section Rep
variable {z : Nat} {ro : Nat → Nat} {cA : FieldType → ClassId} {D : va_G} {roArr : Nat → Option (Nat × (Nat → Int32))} {G : GH} {H H1 : Heap} {n : Nat}
theorem gWorld_at {k : Nat} {c : GC} (h : G.2 k = some c) (h2 : k ≤ n) : (gWorld z ro cA G n)[k]? = some (z + k, gCell z ro cA c) := by
  have hr : (List.range (n + 1))[k]? = some k := by
    rw [List.getElem?_range (by omega)]
  simp only [gWorld, List.getElem?_map, hr, Option.map_some, h, Option.getD_some]
theorem gWorld_at2 {k : Nat} {c : GC} (hk : k < gRB) (h : G.2 k = some c) (h2 : k ≤ n) : (gWorld z ro cA G n)[k]? = some (gAd z ro k, gCell z ro cA c) := by
  rw [gWorld_at h h2]
  simp only [gAd, hk, if_true]
theorem gWorld_len : (gWorld z ro cA G n).length = n + 1 := by simp [gWorld]
theorem gWorld_D (hn : n ≤ 248 ∨ ro 99999 = 0) : va_D (gA z ro) (gWorld z ro cA G n) := by
  have key : ∀ (i : Nat) (p : Nat × va_E), (gWorld z ro cA G n)[i]? = some p → p.1 = z + i ∧ i ≤ n := by
    intro i p h
    simp only [gWorld, List.getElem?_map] at h
    cases hr : (List.range (n + 1))[i]? with
    | none => rw [hr] at h; cases h
    | some j =>
      rw [hr] at h
      have hj : j = i ∧ i < n + 1 := by
        have hl := (List.getElem?_eq_some_iff.mp hr)
        obtain ⟨hl, e⟩ := hl
        rw [List.getElem_range] at e
        exact ⟨e.symm, by simpa using hl⟩
      obtain ⟨rfl, hj⟩ := hj
      cases h
      exact ⟨rfl, by omega⟩
  refine ⟨fun i j p q hi hj e => ?_, fun k q hk => ?_⟩
  · have a := (key i p hi).1
    have b := (key j q hj).1
    omega
  · obtain ⟨a, b⟩ := key k q hk
    refine ⟨by omega, ?_⟩
    rcases hn with h | h
    · left; omega
    · right; omega
theorem gWorld_set {k : Nat} {c : GC} (h2 : k ≤ n) : gWorld z ro cA (gU G k c) n = (gWorld z ro cA G n).set k (z + k, gCell z ro cA c) := by
  refine List.ext_getElem? fun i => ?_
  rw [List.getElem?_set]
  by_cases hi : k = i
  · subst hi
    rw [if_pos rfl, gWorld_len, if_pos (by omega)]
    exact gWorld_at (by simp [gU]) h2
  · rw [if_neg hi]
    simp only [gWorld, List.getElem?_map]
    cases hr : (List.range (n + 1))[i]? with
    | none => rfl
    | some j =>
      have hj : j = i := by
        obtain ⟨hl, e⟩ := List.getElem?_eq_some_iff.mp hr
        rw [List.getElem_range] at e
        exact e.symm
      subst hj
      have hne : j ≠ k := fun e => hi e.symm
      simp [gU, hne]
theorem gWorld_push {c : GC} (h : G.1 = n + 1) : gWorld z ro cA (gPush G c) (n + 1) = gWorld z ro cA G n ++ [(z + (n + 1), gCell z ro cA c)] := by
  simp only [gWorld]
  rw [List.range_succ, List.map_append, List.map_cons, List.map_nil]
  congr 1
  · refine List.map_congr_left fun i hi => ?_
    have : i < n + 1 := List.mem_range.mp hi
    have hne : i ≠ G.1 := by omega
    simp [gPush, hne]
  · simp [gPush, h]
theorem gWorld_dirty : gWorld z ro cA (gDirty G) n = gWorld z ro cA G n := rfl
/-- a cell of the ghost heap stands in the world -/
theorem gRep.at {k : Nat} {c : GC} (h : gRep z ro cA D roArr G H) (hk : k < gRB) (hc : G.2 k = some c) : ∃ n, (n ≤ 248 ∨ ro 99999 = 0) ∧ k ≤ n ∧ n < gRB ∧ va_P D vwCl (gWorld z ro cA G n) H ∧ (gWorld z ro cA G n)[k]? = some (gAd z ro k, gCell z ro cA c) := by
  obtain ⟨n, h0, h1, h2, h3, -, -⟩ := h
  have b := (h1 k hk).mp ⟨c, hc⟩
  refine ⟨n, h2.1, b, h0, h3, ?_⟩
  rw [gWorld_at hc b]
  simp [gAd, hk]
theorem gRep.kept (h : gRep z ro cA D roArr G H) (hs : H1.size = H.size ∨ G.1 = 0) (hq : ∀ q : Nat, gA z ro q → q < H.size → H1[q]? = H[q]?) : gRep z ro cA D roArr G H1 := by
  obtain ⟨n, h0, h1, h2, h3, h4, h5⟩ := h
  refine ⟨n, h0, h1, ⟨h2.1, fun g => ?_⟩, h3.kept fun k q hk => hq q.1 ((gWorld_D h2.1).2 k q hk) ((h3 k q hk).lt), h4, h5⟩
  obtain ⟨a, b, b2⟩ := h2.2 g
  refine ⟨a, ?_, b2⟩
  rcases hs with hs | hs
  · omega
  · omega
theorem gRep.dirty (h : gRep z ro cA D roArr G H) : gRep z ro cA D roArr (gDirty G) H := by
  obtain ⟨n, h0, h1, h2, h3, h4, h5⟩ := h
  exact ⟨n, h0, h1, ⟨h2.1, fun g => absurd g (Nat.lt_irrefl 0)⟩, h3, h4, h5⟩
/-- a store -/
theorem gRep.store {k : Nat} {c c0 : GC} (h : gRep z ro cA D roArr G H) (hk : k < gRB) (hc : G.2 k = some c0) (hs : H1.size = H.size)
    (hP : ∀ n, (n ≤ 248 ∨ ro 99999 = 0) → k ≤ n → va_P D vwCl (gWorld z ro cA G n) H → va_P D vwCl ((gWorld z ro cA G n).set k (gAd z ro k, gCell z ro cA c)) H1)
    (hl : ∀ ci fs, c = .inl (ci, fs) → ∃ q, vwCl[ci]? = some q ∧ fs.length = q.2.2) : gRep z ro cA D roArr (gU G k c) H1 := by
  obtain ⟨n, h0, h1, h2, h3, h4, h5⟩ := h
  have b := (h1 k hk).mp ⟨c0, hc⟩
  refine ⟨n, h0, fun j hj => ?_, ⟨h2.1, fun g => ?_⟩, ?_, fun j hj => ?_, fun j ci fs hj e => ?_⟩
  · rw [← h1 j hj]
    by_cases e : j = k
    · subst e
      simp [gU, hc]
    · simp [gU, e]
  · obtain ⟨x, y, y2⟩ := h2.2 g
    exact ⟨x, by rw [hs]; exact y, y2⟩
  · rw [gWorld_set b]
    have := hP n h2.1 b h3
    simpa [gAd, hk] using this
  · have e : j ≠ k := by omega
    rw [← h4 j hj]
    simp [gU, e]
  · by_cases ej : j = k
    · subst ej
      simp [gU] at e
      exact hl ci fs e
    · simp [gU, ej] at e
      exact h5 j ci fs hj e
/-- a new cell -/
theorem gRep.push {c : GC} (h : gRep z ro cA D roArr G H) (h0 : 0 < G.1) (hb : G.1 < gRB) (hs : H1.size = H.size + 1)
    (hP : ∀ n, H.size = z + n + 1 → va_P D vwCl (gWorld z ro cA G n) H → va_P D vwCl (gWorld z ro cA G n ++ [(z + (n + 1), gCell z ro cA c)]) H1)
    (hl : ∀ ci fs, c = .inl (ci, fs) → ∃ q, vwCl[ci]? = some q ∧ fs.length = q.2.2) : gRep z ro cA D roArr (gPush G c) H1 ∧ gAd z ro G.1 = H.size := by
  obtain ⟨n, h00, h1, h2, h3, h4, h5⟩ := h
  obtain ⟨a, b, b2⟩ := h2.2 h0
  refine ⟨⟨n + 1, by omega, fun j hj => ?_, ⟨Or.inr b2, fun g => ?_⟩, ?_, fun j hj => ?_, fun j ci fs hj e => ?_⟩, by simp [gAd, hb]; omega⟩
  · by_cases e : j = G.1
    · subst e
      simp [gPush]
      omega
    · have := h1 j hj
      simp [gPush, e]
      rw [this]
      omega
  · refine ⟨?_, by omega, b2⟩
    show G.1 + 1 = _
    omega
  · rw [gWorld_push a]
    exact hP n b h3
  · have e : j ≠ G.1 := by omega
    rw [← h4 j hj]
    simp [gPush, e]
  · by_cases ej : j = G.1
    · subst ej
      simp [gPush] at e
      exact hl ci fs e
    · simp [gPush, ej] at e
      exact h5 j ci fs hj e
end Rep
end
section
/-! ===== what stays through all calls: the words, the classes, what lies below z ===== -/
def gw : List Cond := lw_tbl.filter goodWord
theorem gwt (i : Nat) {w : Cond} (h : tables_1[i]? = some w) (g : goodWord w = true) : w ∈ gw := List.mem_filter.mpr ⟨List.mem_append_right _ (List.mem_of_getElem? h), g⟩
theorem gws (i : Nat) {w : Cond} (h : (k2_sels lw_privs)[i]? = some w) (g : goodWord w = true) : w ∈ gw := List.mem_filter.mpr ⟨List.mem_append_left _ (List.mem_of_getElem? h), g⟩
theorem gGood {l : List Cond} (h : ∀ w ∈ l, w ∈ gw) : GoodIn gw l := fun w hw => ⟨h w hw, good_of_word (List.mem_filter.mp (h w hw)).2⟩
theorem gGoodT {l : List Cond} (h : ∀ w ∈ l, w ∈ gw) : GoodIn lw_tbl l := fun w hw => ⟨(List.mem_filter.mp (h w hw)).1, good_of_word (List.mem_filter.mp (h w hw)).2⟩
def gPool : List (String × Nat × String × Nat) := [("TrunkDuel", 77, "trunk 5 4; block 4 0; block 0 3; strap 1 1 right; strap 2 2 below; player ann 2 2 1 1 1 1; player bob 1 3 1 0 1 2;", 100016), ("TrunkDuel$Reader", 100, "place", 100023), ("TrunkDuel$Reader", 109, "strap", 100019), ("TrunkDuel$Reader", 114, "pass", 100029), ("TrunkDuel$Reader", 129, "trunk", 100017), ("TrunkDuel$Reader", 139, "block", 100018), ("TrunkDuel$Reader", 172, "player", 100022), ("TrunkDuel$Reader", 230, "right", 100020), ("TrunkDuel$Reader", 232, "below", 100021), ("TrunkDuel$Reader", 237, "bar", 100024), ("TrunkDuel$Reader", 239, "elbow", 100025), ("TrunkDuel$Reader", 241, "rod", 100026), ("TrunkDuel$Reader", 243, "square", 100027), ("TrunkDuel$Reader", 245, "corner", 100028)]
def gMsgs : List (String × Nat × String) := [("TrunkDuel", 115, "the input buffer has no such length"), ("TrunkDuel", 154, "the placement is not possible now"), ("TrunkDuel", 169, "the strap can not be fastened now"), ("TrunkDuel", 178, "the player can not pass now"), ("TrunkDuel", 187, "there is no change to undo"), ("TrunkDuel", 229, "there is no such row"), ("TrunkDuel", 362, "there is no such rotation"), ("TrunkDuel", 364, "there is no such shape"), ("TrunkDuel", 368, "there is no such player"), ("TrunkDuel", 374, "the cell is not in the trunk"), ("TrunkDuel", 376, "there is no such side"), ("TrunkDuel", 381, "the edge is not in the trunk"), ("TrunkDuel", 383, "there is no such piece"), ("TrunkDuelLaw", 238, "trunk "), ("TrunkDuelLaw", 249, "block "), ("TrunkDuelLaw", 254, "player "), ("TrunkDuelLaw", 256, "a"), ("TrunkDuelLaw", 258, "b"), ("java/util/Arrays", 337, " > ")]
def gStats : List (String × String × String) := [("TrunkDuel$Footprint", "SIZES", "[I"), ("TrunkDuel$Footprint", "OFFSETS_RIGHT", "[I"), ("TrunkDuel$Footprint", "OFFSETS_DOWN", "[I")]
/-- words that are moved one by one -/
def gnw : List Cond := [.methodLinkNest "TrunkDuel" 11 ⟨"TrunkDuel$Reader", "<init>", "()V"⟩ "TrunkDuel", .methodLinkNest "TrunkDuel$Reader" 26 ⟨"TrunkDuel$State", "<init>", "()V"⟩ "TrunkDuel", .methodLinkNest "TrunkDuel$State" 11 ⟨"TrunkDuel$Trunk", "<init>", "()V"⟩ "TrunkDuel", .methodLinkNest "TrunkDuel$State" 20 ⟨"TrunkDuel$Pieces", "<init>", "()V"⟩ "TrunkDuel", .methodLinkNest "TrunkDuel$State" 27 ⟨"TrunkDuel$Player", "<init>", "()V"⟩ "TrunkDuel", .methodLinkNest "TrunkDuel$Reader" 33 ⟨"TrunkDuel$Footprint", "<init>", "()V"⟩ "TrunkDuel", .methodLinkNest "TrunkDuel" 18 ⟨"TrunkDuel$State", "<init>", "()V"⟩ "TrunkDuel", .methodLinkNest "TrunkDuel$History" 24 ⟨"TrunkDuel$State", "<init>", "()V"⟩ "TrunkDuel", .methodLinkNest "TrunkDuel" 43 ⟨"TrunkDuel$Footprint", "<init>", "()V"⟩ "TrunkDuel", .methodLinkNest "TrunkDuel" 50 ⟨"TrunkDuel$Choice", "<init>", "()V"⟩ "TrunkDuel", .methodLinkNest "TrunkDuel" 57 ⟨"TrunkDuel$Crossings", "<init>", "()V"⟩ "TrunkDuel", .methodLinkNest "TrunkDuel" 64 ⟨"TrunkDuel$Regions", "<init>", "()V"⟩ "TrunkDuel", .declares ⟨"java/lang/RuntimeException", "<init>", "()V"⟩, .declares ⟨"java/lang/RuntimeException", "<init>", "(Ljava/lang/String;)V"⟩, .declares ⟨"java/lang/Exception", "<init>", "()V"⟩, .declares ⟨"java/lang/Exception", "<init>", "(Ljava/lang/String;)V"⟩, .declares ⟨"java/lang/Throwable", "<init>", "()V"⟩, .declares ⟨"java/lang/Throwable", "<init>", "(Ljava/lang/String;)V"⟩, .castable "java/lang/IllegalStateException" "java/lang/IllegalStateException", .castable "java/lang/IndexOutOfBoundsException" "java/lang/IndexOutOfBoundsException", .castable "java/lang/IllegalArgumentException" "java/lang/IllegalArgumentException", .castable "[B" "java/lang/Cloneable"]
theorem gnw_warm {s U : State} (hW : s.WarmedH U.vm) (h : ∀ w ∈ gnw, va_Nw w s) : ∀ w ∈ gnw, va_Nw w U :=
  List.forall_mem_cons.mpr ⟨va_Nw.warmM hW (h _ (List.mem_of_getElem? (i := 0) rfl)), List.forall_mem_cons.mpr ⟨va_Nw.warmM hW (h _ (List.mem_of_getElem? (i := 1) rfl)), List.forall_mem_cons.mpr ⟨va_Nw.warmM hW (h _ (List.mem_of_getElem? (i := 2) rfl)), List.forall_mem_cons.mpr ⟨va_Nw.warmM hW (h _ (List.mem_of_getElem? (i := 3) rfl)), List.forall_mem_cons.mpr ⟨va_Nw.warmM hW (h _ (List.mem_of_getElem? (i := 4) rfl)), List.forall_mem_cons.mpr ⟨va_Nw.warmM hW (h _ (List.mem_of_getElem? (i := 5) rfl)), List.forall_mem_cons.mpr ⟨va_Nw.warmM hW (h _ (List.mem_of_getElem? (i := 6) rfl)), List.forall_mem_cons.mpr ⟨va_Nw.warmM hW (h _ (List.mem_of_getElem? (i := 7) rfl)), List.forall_mem_cons.mpr ⟨va_Nw.warmM hW (h _ (List.mem_of_getElem? (i := 8) rfl)), List.forall_mem_cons.mpr ⟨va_Nw.warmM hW (h _ (List.mem_of_getElem? (i := 9) rfl)), List.forall_mem_cons.mpr ⟨va_Nw.warmM hW (h _ (List.mem_of_getElem? (i := 10) rfl)), List.forall_mem_cons.mpr ⟨va_Nw.warmM hW (h _ (List.mem_of_getElem? (i := 11) rfl)), List.forall_mem_cons.mpr ⟨va_Nw.warmD hW (h _ (List.mem_of_getElem? (i := 12) rfl)), List.forall_mem_cons.mpr ⟨va_Nw.warmD hW (h _ (List.mem_of_getElem? (i := 13) rfl)), List.forall_mem_cons.mpr ⟨va_Nw.warmD hW (h _ (List.mem_of_getElem? (i := 14) rfl)), List.forall_mem_cons.mpr ⟨va_Nw.warmD hW (h _ (List.mem_of_getElem? (i := 15) rfl)), List.forall_mem_cons.mpr ⟨va_Nw.warmD hW (h _ (List.mem_of_getElem? (i := 16) rfl)), List.forall_mem_cons.mpr ⟨va_Nw.warmD hW (h _ (List.mem_of_getElem? (i := 17) rfl)), List.forall_mem_cons.mpr ⟨va_Nw.warmC hW (h _ (List.mem_of_getElem? (i := 18) rfl)), List.forall_mem_cons.mpr ⟨va_Nw.warmC hW (h _ (List.mem_of_getElem? (i := 19) rfl)), List.forall_mem_cons.mpr ⟨va_Nw.warmC hW (h _ (List.mem_of_getElem? (i := 20) rfl)), List.forall_mem_cons.mpr ⟨va_Nw.warmC hW (h _ (List.mem_of_getElem? (i := 21) rfl)), fun _ h => nomatch h⟩⟩⟩⟩⟩⟩⟩⟩⟩⟩⟩⟩⟩⟩⟩⟩⟩⟩⟩⟩⟩⟩
/-- a String constant at a: its text -/
def gTx (tx : List Nat) (a : Nat) (A : Nat → Prop) (U : State) (H : Heap) : Prop := ∃ v, va_O "java/lang/String" a A U H ∧ va_OF "java/lang/String" "coder" "B" (.int 0) a A U H ∧ va_OF "java/lang/String" "value" "[B" (.ref v) a A U H ∧ va_T .byte v tx.length (fun j => .int (nI (tx.getD j 0))) A U H
/-- the drawn text at a: n letters f -/
def gDt (n : Nat) (f : Nat → Int32) (a : Nat) (A : Nat → Prop) (U : State) (H : Heap) : Prop := ∃ tx : List Nat, tx.length = n ∧ tx.length < 2 ^ 31 ∧ (∀ ch ∈ tx, ch < 128) ∧ (∀ j, j < n → f j = nI (tx.getD j 0)) ∧ gTx tx a A U H
def gEnv (z : Nat) (ro : Nat → Nat) (cA : FieldType → ClassId) (D : va_G) (roArr : Nat → Option (Nat × (Nat → Int32))) (U : State) (H : Heap) : Prop :=
  va_K D vwCl (gTys cA) U ∧ va_AO "TrunkDuel$State" U ∧ (∀ w ∈ gnw, va_Nw w U) ∧
  (∀ i j, i < 3 → j < 3 → i ≠ j → va_Nc (gExc i) (gExc j) U) ∧
  (∀ k q, gRB ≤ k → roArr k = some q → (k ≠ gDY → va_T .int (ro k) q.1 (fun j => .int (q.2 j)) (gA z ro) U H) ∧ (k = gDY → gDt q.1 q.2 (ro k) (gA z ro) U H)) ∧
  (∀ j c, gStats[j]? = some c → va_Z c.1 c.2.1 c.2.2 (.ref (ro (gRB + j))) (gA z ro) U H) ∧
  (∀ i tx, gTexts[i]? = some tx → gTx tx (ro (100016 + i)) (gA z ro) U H) ∧
  (∀ q ∈ gPool, vk_R q.1 q.2.1 q.2.2.1 (ro q.2.2.2) U) ∧ (∀ q ∈ gMsgs, ∃ sa, vk_R q.1 q.2.1 q.2.2 sa U) ∧
  va_Z "java/lang/String" "COMPACT_STRINGS" "Z" (.int 1) (gA z ro) U H ∧ va_Zq "jdk/internal/util/Preconditions" "SIOOBE_FORMATTER" "Ljava/util/function/BiFunction;" (gA z ro) U H ∧
  vx_Zq Bundle.tN "UNASSIGNED_STACK" Bundle.steD (gA z ro) U H ∧ vx_Zq Bundle.tN "SUPPRESSED_SENTINEL" Bundle.listD (gA z ro) U H
theorem gEnv.to {z : Nat} {ro : Nat → Nat} {cA : FieldType → ClassId} {D : va_G} {roArr : Nat → Option (Nat × (Nat → Int32))} {s U : State} {H H1 : Heap} (hW : s.WarmedH U.vm) (hq : ∀ a : Nat, a < H.size → ¬ gA z ro a → H1[a]? = H[a]?) (h : gEnv z ro cA D roArr s H) : gEnv z ro cA D roArr U H1 := by
  have hA := hW.alike
  obtain ⟨h1, h2, h3, h30, h4, h5, h6, h7, h8, h9, h10, h11, h12⟩ := h
  refine ⟨h1.moved hA, h2.moved hA, gnw_warm hW h3, fun i j hi hj hn => (h30 i j hi hj hn).moved hA, fun k q hk e => ⟨fun ne => (((h4 k q hk e).1 ne).moved hA).kept hq, fun eq => ?_⟩, fun j c e => ((h5 j c e).moved hA).kept hq, fun i tx e => ?_, fun q hm => (h7 q hm).warm hW, fun q hm => ?_, (h9.moved hA).kept hq, (h10.moved hA).kept hq, (h11.moved hA).kept hq, (h12.moved hA).kept hq⟩
  · obtain ⟨tx, t1, t2, t3, t4, v, a, b, c, d⟩ := (h4 k q hk e).2 eq
    exact ⟨tx, t1, t2, t3, t4, v, (a.moved hA).kept hq, (b.moved hA).kept hq, (c.moved hA).kept hq, (d.moved hA).kept hq⟩
  · obtain ⟨v, a, b, c, d⟩ := h6 i tx e
    exact ⟨v, (a.moved hA).kept hq, (b.moved hA).kept hq, (c.moved hA).kept hq, (d.moved hA).kept hq⟩
  · obtain ⟨sa, a⟩ := h8 q hm
    exact ⟨sa, a.warm hW⟩
theorem gEnv.blind {z : Nat} {ro : Nat → Nat} {cA : FieldType → ClassId} {D : va_G} {roArr : Nat → Option (Nat × (Nat → Int32))} {U : State} {g : JFrame} {mk : MethodId} {a : Array Value} (h : gEnv z ro cA D roArr U U.heap) : gEnv z ro cA D roArr (U.calling g mk a) (U.calling g mk a).heap :=
  h.to (s := U) (U := U.calling g mk a) (H := U.heap) (H1 := (U.calling g mk a).heap) (State.WarmedH.refl U) (fun _ _ _ => rfl)
end
section
/-! ===== String.length() and String.charAt(k) of a String constant ===== -/
abbrev gWs (y : MethodName) (c : ByteArray) (n : Nat) (r : Option FieldType) : List Cond := Cond.code y c n r :: gw
def gQn (post : Int32 → Prop) : Array Value → State → Outcome → State → Prop := fun _ st oc t => (∃ x, oc = .returned (some (.int x)) ∧ post x) ∧ t.heap = st.heap
def gQ0 : Array Value → State → Outcome → State → Prop := fun _ st oc t => oc = .returned none ∧ t.heap = st.heap
section CallP
variable {p : Program} {l : Launch} {e : Env} {R : Room} {s : State} {m : MethodId} {args : Array Value} {below : List Frame} {meth : Method} {c : Code} {H : Heap} {locs : List Loc} {cells slots : Nat} {Q : State → Prop} {pc : Nat} {ls : Array Slot} {rest st0 : List Value} {a : Array Value}
theorem g_calln {post : Int32 → Prop} (hr : va_Run p l e R s m args below meth c H locs cells slots 0 0 (F0 m pc ls st0) rest (gQn post a) (fun _ => False))
    (kk : ∀ x, post x → W p l e R s m args below meth c H locs cells slots Q (F0 m (pc + 3) ls (.int x :: rest))) : W p l e R s m args below meth c H locs cells slots Q (F0 m pc ls st0) := by
  intro T hT X
  obtain ⟨v, st₀, t, T', L, h0, X', hL, e1, e2, ⟨⟨x, hv, hp⟩, hh⟩, st⟩ := hr T hT X
  cases hv
  have hLe : L = [] := List.eq_nil_iff_forall_not_mem.mpr fun q hq => hL q hq
  subst hLe
  rw [List.append_nil] at X'
  obtain ⟨t2, a1, b1⟩ := kk x hp T' (by rw [e1, hh, h0]) X'
  exact ⟨t2, st t2 a1, b1⟩
theorem g_call0 (hr : va_Run p l e R s m args below meth c H locs cells slots 0 0 (F0 m pc ls st0) rest (gQ0 a) (fun _ => False))
    (kk : W p l e R s m args below meth c H locs cells slots Q (F0 m (pc + 3) ls rest)) : W p l e R s m args below meth c H locs cells slots Q (F0 m pc ls st0) := by
  intro T hT X
  obtain ⟨v, st₀, t, T', L, h0, X', hL, e1, e2, ⟨hv, hh⟩, st⟩ := hr T hT X
  cases hv
  have hLe : L = [] := List.eq_nil_iff_forall_not_mem.mpr fun q hq => hL q hq
  subst hLe
  rw [List.append_nil] at X'
  obtain ⟨t2, a1, b1⟩ := kk T' (by rw [e1, hh, h0]) X'
  exact ⟨t2, st t2 a1, b1⟩
end CallP
theorem dJ0_length_8abf5_0 : decode cJ0_length_8abf5 0 = .ok (.aload_n 0, 1) := by decide +kernel
theorem dJ0_length_8abf5_1 : decode cJ0_length_8abf5 1 = .ok (.getfield 9, 3) := by decide +kernel
theorem dJ0_length_8abf5_4 : decode cJ0_length_8abf5 4 = .ok (.arraylength, 1) := by decide +kernel
theorem dJ0_length_8abf5_5 : decode cJ0_length_8abf5 5 = .ok (.aload_n 0, 1) := by decide +kernel
theorem dJ0_length_8abf5_6 : decode cJ0_length_8abf5 6 = .ok (.invokevirtual 335, 3) := by decide +kernel
theorem dJ0_length_8abf5_9 : decode cJ0_length_8abf5 9 = .ok (.ishr, 1) := by decide +kernel
theorem dJ0_length_8abf5_10 : decode cJ0_length_8abf5 10 = .ok (.ireturn, 1) := by decide +kernel
theorem dJ0_charAt_5068e_0 : decode cJ0_charAt_5068e 0 = .ok (.aload_n 0, 1) := by decide +kernel
theorem dJ0_charAt_5068e_1 : decode cJ0_charAt_5068e 1 = .ok (.invokevirtual 492, 3) := by decide +kernel
theorem dJ0_charAt_5068e_4 : decode cJ0_charAt_5068e 4 = .ok (.ifCond .eq 12, 3) := by decide +kernel
theorem dJ0_charAt_5068e_7 : decode cJ0_charAt_5068e 7 = .ok (.aload_n 0, 1) := by decide +kernel
theorem dJ0_charAt_5068e_8 : decode cJ0_charAt_5068e 8 = .ok (.getfield 9, 3) := by decide +kernel
theorem dJ0_charAt_5068e_11 : decode cJ0_charAt_5068e 11 = .ok (.iload_n 1, 1) := by decide +kernel
theorem dJ0_charAt_5068e_12 : decode cJ0_charAt_5068e 12 = .ok (.invokestatic 495, 3) := by decide +kernel
theorem dJ0_charAt_5068e_15 : decode cJ0_charAt_5068e 15 = .ok (.ireturn, 1) := by decide +kernel
theorem dJ0_charAt_5068e_16 : decode cJ0_charAt_5068e 16 = .ok (.aload_n 0, 1) := by decide +kernel
theorem dJ0_charAt_5068e_17 : decode cJ0_charAt_5068e 17 = .ok (.getfield 9, 3) := by decide +kernel
theorem dJ0_charAt_5068e_20 : decode cJ0_charAt_5068e 20 = .ok (.iload_n 1, 1) := by decide +kernel
theorem dJ0_charAt_5068e_21 : decode cJ0_charAt_5068e 21 = .ok (.invokestatic 498, 3) := by decide +kernel
theorem dJ0_charAt_5068e_24 : decode cJ0_charAt_5068e 24 = .ok (.ireturn, 1) := by decide +kernel
theorem dJ0_coder_7d493_0 : decode cJ0_coder_7d493 0 = .ok (.getstatic 38, 3) := by decide +kernel
theorem dJ0_coder_7d493_3 : decode cJ0_coder_7d493 3 = .ok (.ifCond .eq 10, 3) := by decide +kernel
theorem dJ0_coder_7d493_6 : decode cJ0_coder_7d493 6 = .ok (.aload_n 0, 1) := by decide +kernel
theorem dJ0_coder_7d493_7 : decode cJ0_coder_7d493 7 = .ok (.getfield 15, 3) := by decide +kernel
theorem dJ0_coder_7d493_10 : decode cJ0_coder_7d493 10 = .ok (.goto 4, 3) := by decide +kernel
theorem dJ0_coder_7d493_13 : decode cJ0_coder_7d493 13 = .ok (.iconst 1, 1) := by decide +kernel
theorem dJ0_coder_7d493_14 : decode cJ0_coder_7d493 14 = .ok (.ireturn, 1) := by decide +kernel
theorem dJ0_isLatin1_aae02_0 : decode cJ0_isLatin1_aae02 0 = .ok (.getstatic 38, 3) := by decide +kernel
theorem dJ0_isLatin1_aae02_3 : decode cJ0_isLatin1_aae02 3 = .ok (.ifCond .eq 14, 3) := by decide +kernel
theorem dJ0_isLatin1_aae02_6 : decode cJ0_isLatin1_aae02 6 = .ok (.aload_n 0, 1) := by decide +kernel
theorem dJ0_isLatin1_aae02_7 : decode cJ0_isLatin1_aae02 7 = .ok (.getfield 15, 3) := by decide +kernel
theorem dJ0_isLatin1_aae02_10 : decode cJ0_isLatin1_aae02 10 = .ok (.ifCond .ne 7, 3) := by decide +kernel
theorem dJ0_isLatin1_aae02_13 : decode cJ0_isLatin1_aae02 13 = .ok (.iconst 1, 1) := by decide +kernel
theorem dJ0_isLatin1_aae02_14 : decode cJ0_isLatin1_aae02 14 = .ok (.goto 4, 3) := by decide +kernel
theorem dJ0_isLatin1_aae02_17 : decode cJ0_isLatin1_aae02 17 = .ok (.iconst 0, 1) := by decide +kernel
theorem dJ0_isLatin1_aae02_18 : decode cJ0_isLatin1_aae02 18 = .ok (.ireturn, 1) := by decide +kernel
theorem dJ0_checkIndex_df160_0 : decode cJ0_checkIndex_df160 0 = .ok (.iload_n 0, 1) := by decide +kernel
theorem dJ0_checkIndex_df160_1 : decode cJ0_checkIndex_df160 1 = .ok (.iload_n 1, 1) := by decide +kernel
theorem dJ0_checkIndex_df160_2 : decode cJ0_checkIndex_df160 2 = .ok (.getstatic 1053, 3) := by decide +kernel
theorem dJ0_checkIndex_df160_5 : decode cJ0_checkIndex_df160 5 = .ok (.invokestatic 1059, 3) := by decide +kernel
theorem dJ0_checkIndex_df160_8 : decode cJ0_checkIndex_df160 8 = .ok (.pop, 1) := by decide +kernel
theorem dJ0_checkIndex_df160_9 : decode cJ0_checkIndex_df160 9 = .ok (.return_, 1) := by decide +kernel
theorem dJ1_charAt_3b067_0 : decode cJ1_charAt_3b067 0 = .ok (.iload_n 1, 1) := by decide +kernel
theorem dJ1_charAt_3b067_1 : decode cJ1_charAt_3b067 1 = .ok (.aload_n 0, 1) := by decide +kernel
theorem dJ1_charAt_3b067_2 : decode cJ1_charAt_3b067 2 = .ok (.arraylength, 1) := by decide +kernel
theorem dJ1_charAt_3b067_3 : decode cJ1_charAt_3b067 3 = .ok (.invokestatic 9, 3) := by decide +kernel
theorem dJ1_charAt_3b067_6 : decode cJ1_charAt_3b067 6 = .ok (.aload_n 0, 1) := by decide +kernel
theorem dJ1_charAt_3b067_7 : decode cJ1_charAt_3b067 7 = .ok (.iload_n 1, 1) := by decide +kernel
theorem dJ1_charAt_3b067_8 : decode cJ1_charAt_3b067 8 = .ok (.baload, 1) := by decide +kernel
theorem dJ1_charAt_3b067_9 : decode cJ1_charAt_3b067 9 = .ok (.sipush 255, 3) := by decide +kernel
theorem dJ1_charAt_3b067_12 : decode cJ1_charAt_3b067 12 = .ok (.iand, 1) := by decide +kernel
theorem dJ1_charAt_3b067_13 : decode cJ1_charAt_3b067 13 = .ok (.i2c, 1) := by decide +kernel
theorem dJ1_charAt_3b067_14 : decode cJ1_charAt_3b067 14 = .ok (.ireturn, 1) := by decide +kernel
theorem dJ3_checkIndex_8e157_0 : decode cJ3_checkIndex_8e157 0 = .ok (.iload_n 0, 1) := by decide +kernel
theorem dJ3_checkIndex_8e157_1 : decode cJ3_checkIndex_8e157 1 = .ok (.ifCond .lt 8, 3) := by decide +kernel
theorem dJ3_checkIndex_8e157_4 : decode cJ3_checkIndex_8e157 4 = .ok (.iload_n 0, 1) := by decide +kernel
theorem dJ3_checkIndex_8e157_5 : decode cJ3_checkIndex_8e157 5 = .ok (.iload_n 1, 1) := by decide +kernel
theorem dJ3_checkIndex_8e157_6 : decode cJ3_checkIndex_8e157 6 = .ok (.if_icmp .lt 10, 3) := by decide +kernel
theorem dJ3_checkIndex_8e157_9 : decode cJ3_checkIndex_8e157 9 = .ok (.aload_n 2, 1) := by decide +kernel
theorem dJ3_checkIndex_8e157_10 : decode cJ3_checkIndex_8e157 10 = .ok (.iload_n 0, 1) := by decide +kernel
theorem dJ3_checkIndex_8e157_11 : decode cJ3_checkIndex_8e157 11 = .ok (.iload_n 1, 1) := by decide +kernel
theorem dJ3_checkIndex_8e157_12 : decode cJ3_checkIndex_8e157 12 = .ok (.invokestatic 95, 3) := by decide +kernel
theorem dJ3_checkIndex_8e157_15 : decode cJ3_checkIndex_8e157 15 = .ok (.athrow, 1) := by decide +kernel
theorem dJ3_checkIndex_8e157_16 : decode cJ3_checkIndex_8e157 16 = .ok (.iload_n 0, 1) := by decide +kernel
theorem dJ3_checkIndex_8e157_17 : decode cJ3_checkIndex_8e157 17 = .ok (.ireturn, 1) := by decide +kernel
section JDK
variable {z : Nat} {ro : Nat → Nat} {cA : FieldType → ClassId} {D : va_G} {roArr : Nat → Option (Nat × (Nat → Int32))}
set_option maxHeartbeats 4000000 in
set_option maxRecDepth 100000 in
/-- Preconditions.checkIndex, within: the index -/
theorem gm_pci (l : Launch) (k n : Nat) (f : Option Nat) (h : k < n) (hn : n < 2 ^ 31) : Met l yJ3_checkIndex_8e157 (gWs yJ3_checkIndex_8e157 cJ3_checkIndex_8e157 3 (some .int)) ({ frames := 1, cells := 0, slots := 0, locals := 12 }) (va_Pc [.int (nI k), .int (nI n), va_rf f] (fun _ => True)) (gQn (fun x => x = nI k)) 0 0 (fun _ => False) := by
  refine Met.ofW (cc := cJ3_checkIndex_8e157) (maxL := 3) (ret := some .int) (by decide) rfl ?_
  intro p e s m args below meth c s₁ B hml hv
  obtain ⟨rfl, -⟩ := hv
  have hx := B.exec
  have hb := B.bytes
  have hr := B.returns
  have hlocks := B.notSynchronized
  have hl := lv_entry ([.int (nI k), .int (nI n), va_rf f]) (n := 3) (by cases f <;> exact Nat.le_of_ble_eq_true rfl)
  rw [lg_entry_eq]
  generalize (lg_sl ([.int (nI k), .int (nI n), va_rf f]) ++ List.replicate (3 - (lg_sl ([.int (nI k), .int (nI n), va_rf f])).length) Slot.unset).toArray = ls at hl ⊢
  have hl : lv_has ls 3 [(0, .int (nI k)), (1, .int (nI n)), (2, va_rf f)] := by cases f <;> exact hl
  refine lv_iload_n hx hb dJ3_checkIndex_8e157_0 rfl (lv_at hl 0 rfl) ?_
  refine lv_if_lt (tgt := 9) hx hb dJ3_checkIndex_8e157_1 (by decide) (fun h0 => absurd h0 (nI_pos (by omega))) (fun _ => ?_)
  refine lv_iload_n hx hb dJ3_checkIndex_8e157_4 rfl (lv_at hl 0 rfl) ?_
  refine lv_iload_n hx hb dJ3_checkIndex_8e157_5 rfl (lv_at hl 1 rfl) ?_
  refine lv_icmp_lt (tgt := 16) hx hb dJ3_checkIndex_8e157_6 (by decide) (fun _ => ?_) (fun h0 => absurd (nI_lt h hn) h0)
  refine lv_iload_n hx hb dJ3_checkIndex_8e157_16 rfl (lv_at hl 0 rfl) ?_
  exact W.iret hx hb hr (fun t ht hW => ⟨⟨_, rfl, rfl⟩, ht⟩) (fun q hq => absurd hq List.not_mem_nil) dJ3_checkIndex_8e157_17
set_option maxHeartbeats 4000000 in
set_option maxRecDepth 100000 in
/-- String.checkIndex, within -/
theorem gm_sci (l : Launch) (k n : Nat) (h : k < n) (hn : n < 2 ^ 31) : Met l yJ0_checkIndex_df160 (gWs yJ0_checkIndex_df160 cJ0_checkIndex_df160 2 none) ({ frames := 2, cells := 0, slots := 0, locals := 40 }) (va_Pc [.int (nI k), .int (nI n)] (fun U => gEnv z ro cA D roArr U U.heap)) gQ0 0 0 (fun _ => False) := by
  refine Met.ofW (cc := cJ0_checkIndex_df160) (maxL := 2) (ret := none) (by decide) rfl ?_
  intro p e s m args below meth c s₁ B hml hv
  obtain ⟨rfl, hE⟩ := hv
  have hx := B.exec
  have hb := B.bytes
  have hr := B.returns
  have hlocks := B.notSynchronized
  have hts0 := atoms_spec (ws := gWs yJ0_checkIndex_df160 cJ0_checkIndex_df160 2 none) B.pre
  have hts : ∀ w ∈ gw, w.before _ s = true := fun w h => hts0 w (List.mem_cons_of_mem _ h)
  have hown : s.vm.findClass RJ0 = some m.cls := findClass_of_methodNamed B.named
  have hS : va_S (gA z ro) s.heap s.heap [] := va_S.rf
  have hl := lv_entry ([.int (nI k), .int (nI n)]) (n := 2) (Nat.le_of_ble_eq_true rfl)
  rw [lg_entry_eq]
  generalize (lg_sl ([.int (nI k), .int (nI n)]) ++ List.replicate (2 - (lg_sl ([.int (nI k), .int (nI n)])).length) Slot.unset).toArray = ls at hl ⊢
  have hl : lv_has ls 2 [(0, .int (nI k)), (1, .int (nI n))] := hl
  refine lv_iload_n hx hb dJ0_checkIndex_df160_0 rfl (lv_at hl 0 rfl) ?_
  refine lv_iload_n hx hb dJ0_checkIndex_df160_1 rfl (lv_at hl 1 rfl) ?_
  obtain ⟨f, hZ⟩ : ∃ f, va_Z "jdk/internal/util/Preconditions" "SIOOBE_FORMATTER" "Ljava/util/function/BiFunction;" (va_rf f) (gA z ro) s s.heap := by
    rcases hE.2.2.2.2.2.2.2.2.2.2.1 with h | ⟨t, h⟩
    · exact ⟨none, h⟩
    · exact ⟨some t, h⟩
  refine va_gets hx hb hZ hS hown (hts (.fieldLink RJ0 1053 "jdk/internal/util/Preconditions" "SIOOBE_FORMATTER" "Ljava/util/function/BiFunction;") (gwt 373 (by decide +kernel) rfl)) (fun x hx => hx) dJ0_checkIndex_df160_2 ?_
  refine g_calln (va_runS (n := 3) (As := [.int (nI k), .int (nI n), va_rf f]) (rest := []) ⟨hx, hb, hml, hown, hts⟩ (gm_pci l k n f h hn) (va_cwS 3 hts (gGood (List.forall_mem_cons.mpr ⟨gwt 375 (by decide +kernel) rfl, List.forall_mem_cons.mpr ⟨gwt 376 (by decide +kernel) rfl, List.forall_mem_cons.mpr ⟨gwt 14 (by decide +kernel) rfl, List.forall_mem_cons.mpr ⟨gwt 377 (by decide +kernel) rfl, fun w h => h⟩⟩⟩⟩)) rfl rfl rfl (by decide +kernel) ⟨Nat.le_of_ble_eq_true rfl, Nat.le_of_ble_eq_true rfl⟩) ⟨fun a U g mk q => q, fun U hU hW => ⟨rfl, trivial⟩⟩ rfl rfl hl.1 rfl (lv_room (Nat.le_of_ble_eq_true rfl)) dJ0_checkIndex_df160_5 ⟨Nat.le_refl _, Nat.le_refl _⟩) (fun x _ => ?_)
  refine lv_pop hx hb dJ0_checkIndex_df160_8 rfl ?_
  exact W.vret hx hb hr (fun t ht hW => ⟨rfl, ht⟩) (fun q hq => absurd hq List.not_mem_nil) dJ0_checkIndex_df160_9
set_option maxHeartbeats 4000000 in
set_option maxRecDepth 100000 in
/-- StringLatin1.charAt, within -/
theorem gm_lca (l : Launch) (v k : Nat) (tx : List Nat) (ch : Nat) (h : tx[k]? = some ch) (hc : ch < 128) (hn : tx.length < 2 ^ 31) : Met l yJ1_charAt_3b067 (gWs yJ1_charAt_3b067 cJ1_charAt_3b067 2 (some .char)) ({ frames := 3, cells := 0, slots := 0, locals := 70 }) (va_Pc [.ref v, .int (nI k)] (fun U => gEnv z ro cA D roArr U U.heap ∧ va_T .byte v tx.length (fun j => .int (nI (tx.getD j 0))) (gA z ro) U U.heap)) (gQn (fun x => x = nI ch)) 0 0 (fun _ => False) := by
  have hk : k < tx.length := (List.getElem?_eq_some_iff.mp h).1
  refine Met.ofW (cc := cJ1_charAt_3b067) (maxL := 2) (ret := some .char) (by decide) rfl ?_
  intro p e s m args below meth c s₁ B hml hv
  obtain ⟨rfl, hE, hT⟩ := hv
  have hx := B.exec
  have hb := B.bytes
  have hr := B.returns
  have hlocks := B.notSynchronized
  have hts0 := atoms_spec (ws := gWs yJ1_charAt_3b067 cJ1_charAt_3b067 2 (some .char)) B.pre
  have hts : ∀ w ∈ gw, w.before _ s = true := fun w h => hts0 w (List.mem_cons_of_mem _ h)
  have hown : s.vm.findClass RJ1 = some m.cls := findClass_of_methodNamed B.named
  have hS : va_S (gA z ro) s.heap s.heap [] := va_S.rf
  have hl := lv_entry ([.ref v, .int (nI k)]) (n := 2) (Nat.le_of_ble_eq_true rfl)
  rw [lg_entry_eq]
  generalize (lg_sl ([.ref v, .int (nI k)]) ++ List.replicate (2 - (lg_sl ([.ref v, .int (nI k)])).length) Slot.unset).toArray = ls at hl ⊢
  have hl : lv_has ls 2 [(0, .ref v), (1, .int (nI k))] := hl
  refine lv_iload_n hx hb dJ1_charAt_3b067_0 rfl (lv_at hl 1 rfl) ?_
  refine lv_aload_n hx hb dJ1_charAt_3b067_1 rfl (lv_at hl 0 rfl) ?_
  refine va_tlen hx hb hT hS (v := nI tx.length) rfl dJ1_charAt_3b067_2 ?_
  refine g_call0 (va_runS (n := 2) (As := [.int (nI k), .int (nI tx.length)]) (rest := []) ⟨hx, hb, hml, hown, hts⟩ (gm_sci (z := z) (ro := ro) (cA := cA) (D := D) (roArr := roArr) l k tx.length hk hn) (va_cwS 2 hts (gGood (List.forall_mem_cons.mpr ⟨gwt 370 (by decide +kernel) rfl, List.forall_mem_cons.mpr ⟨gwt 371 (by decide +kernel) rfl, List.forall_mem_cons.mpr ⟨gwt 12 (by decide +kernel) rfl, List.forall_mem_cons.mpr ⟨gwt 372 (by decide +kernel) rfl, fun w h => h⟩⟩⟩⟩)) rfl rfl rfl (by decide +kernel) ⟨Nat.le_of_ble_eq_true rfl, Nat.le_of_ble_eq_true rfl⟩) ⟨fun a U g mk q => ⟨q.1, gEnv.blind q.2⟩, fun U hU hW => ⟨rfl, hE.to hW (fun q _ _ => by rw [hU])⟩⟩ rfl rfl hl.1 rfl (lv_room (Nat.le_of_ble_eq_true rfl)) dJ1_charAt_3b067_3 ⟨Nat.le_refl _, Nat.le_refl _⟩) ?_
  refine lv_aload_n hx hb dJ1_charAt_3b067_6 rfl (lv_at hl 0 rfl) ?_
  refine lv_iload_n hx hb dJ1_charAt_3b067_7 rfl (lv_at hl 1 rfl) ?_
  have e1 : tx.getD k 0 = ch := by simp [List.getD, h]
  refine va_tb hx hb hT hS (vp_in_nI hk hn) (v := .int (nI ch)) (by show Value.int _ = _; rw [nI_clamp (by omega), e1]) dJ1_charAt_3b067_8 ?_
  refine lv_sipush (v := nI 255) hx hb dJ1_charAt_3b067_9 (by decide) ?_
  refine lv_iand hx hb dJ1_charAt_3b067_12 ?_
  refine lv_i2c (v := nI ch) hx hb dJ1_charAt_3b067_13 ?_ ?_
  · revert hc
    clear e1 h
    revert ch
    decide +kernel
  refine W.zret hx hb hr ?_ (fun t ht hW => ⟨⟨_, rfl, rfl⟩, ht⟩) (fun q hq => absurd hq List.not_mem_nil) dJ1_charAt_3b067_14
  revert hc
  clear e1 h
  revert ch
  decide +kernel
set_option maxHeartbeats 4000000 in
set_option maxRecDepth 100000 in
theorem gm_coder (l : Launch) (a : Nat) (tx : List Nat) : Met l yJ0_coder_7d493 (gWs yJ0_coder_7d493 cJ0_coder_7d493 1 (some .byte)) ({ frames := 1, cells := 0, slots := 0, locals := 12 }) (va_Pc [.ref a] (fun U => gEnv z ro cA D roArr U U.heap ∧ gTx tx a (gA z ro) U U.heap)) (gQn (fun x => x = 0)) 0 0 (fun _ => False) := by
  refine Met.ofW (cc := cJ0_coder_7d493) (maxL := 1) (ret := some .byte) (by decide) rfl ?_
  intro p e s m args below meth c s₁ B hml hv
  obtain ⟨rfl, hE, v, hO, hco, hva, hT⟩ := hv
  have hx := B.exec
  have hb := B.bytes
  have hr := B.returns
  have hlocks := B.notSynchronized
  have hts0 := atoms_spec (ws := gWs yJ0_coder_7d493 cJ0_coder_7d493 1 (some .byte)) B.pre
  have hts : ∀ w ∈ gw, w.before _ s = true := fun w h => hts0 w (List.mem_cons_of_mem _ h)
  have hown : s.vm.findClass RJ0 = some m.cls := findClass_of_methodNamed B.named
  have hS : va_S (gA z ro) s.heap s.heap [] := va_S.rf
  have hl := lv_entry ([.ref a]) (n := 1) (Nat.le_of_ble_eq_true rfl)
  rw [lg_entry_eq]
  generalize (lg_sl ([.ref a]) ++ List.replicate (1 - (lg_sl ([.ref a])).length) Slot.unset).toArray = ls at hl ⊢
  have hl : lv_has ls 1 [(0, .ref a)] := hl
  refine va_gets hx hb hE.2.2.2.2.2.2.2.2.2.1 hS hown (hts (.fieldLink RJ0 38 "java/lang/String" "COMPACT_STRINGS" "Z") (gwt 357 (by decide +kernel) rfl)) (fun x hx => hx) dJ0_coder_7d493_0 ?_
  refine lv_if_eq (tgt := 13) hx hb dJ0_coder_7d493_3 (by decide) (fun h0 => absurd h0 (by decide)) (fun _ => ?_)
  refine lv_aload_n hx hb dJ0_coder_7d493_6 rfl (lv_at hl 0 rfl) ?_
  refine vk_getf hx hb hco hS hown (hts (.fieldLink RJ0 15 "java/lang/String" "coder" "B") (gwt 1545 (by decide +kernel) rfl)) (fun x hx => hx) dJ0_coder_7d493_7 ?_
  refine lv_goto (tgt := 14) hx hb dJ0_coder_7d493_10 (by decide) ?_
  exact W.zret hx hb hr (by decide) (fun t ht hW => ⟨⟨_, rfl, rfl⟩, ht⟩) (fun q hq => absurd hq List.not_mem_nil) dJ0_coder_7d493_14
set_option maxHeartbeats 4000000 in
set_option maxRecDepth 100000 in
theorem gm_isLatin1 (l : Launch) (a : Nat) (tx : List Nat) : Met l yJ0_isLatin1_aae02 (gWs yJ0_isLatin1_aae02 cJ0_isLatin1_aae02 1 (some .boolean)) ({ frames := 1, cells := 0, slots := 0, locals := 12 }) (va_Pc [.ref a] (fun U => gEnv z ro cA D roArr U U.heap ∧ gTx tx a (gA z ro) U U.heap)) (gQn (fun x => x = 1)) 0 0 (fun _ => False) := by
  refine Met.ofW (cc := cJ0_isLatin1_aae02) (maxL := 1) (ret := some .boolean) (by decide) rfl ?_
  intro p e s m args below meth c s₁ B hml hv
  obtain ⟨rfl, hE, v, hO, hco, hva, hT⟩ := hv
  have hx := B.exec
  have hb := B.bytes
  have hr := B.returns
  have hlocks := B.notSynchronized
  have hts0 := atoms_spec (ws := gWs yJ0_isLatin1_aae02 cJ0_isLatin1_aae02 1 (some .boolean)) B.pre
  have hts : ∀ w ∈ gw, w.before _ s = true := fun w h => hts0 w (List.mem_cons_of_mem _ h)
  have hown : s.vm.findClass RJ0 = some m.cls := findClass_of_methodNamed B.named
  have hS : va_S (gA z ro) s.heap s.heap [] := va_S.rf
  have hl := lv_entry ([.ref a]) (n := 1) (Nat.le_of_ble_eq_true rfl)
  rw [lg_entry_eq]
  generalize (lg_sl ([.ref a]) ++ List.replicate (1 - (lg_sl ([.ref a])).length) Slot.unset).toArray = ls at hl ⊢
  have hl : lv_has ls 1 [(0, .ref a)] := hl
  refine va_gets hx hb hE.2.2.2.2.2.2.2.2.2.1 hS hown (hts (.fieldLink RJ0 38 "java/lang/String" "COMPACT_STRINGS" "Z") (gwt 357 (by decide +kernel) rfl)) (fun x hx => hx) dJ0_isLatin1_aae02_0 ?_
  refine lv_if_eq (tgt := 17) hx hb dJ0_isLatin1_aae02_3 (by decide) (fun h0 => absurd h0 (by decide)) (fun _ => ?_)
  refine lv_aload_n hx hb dJ0_isLatin1_aae02_6 rfl (lv_at hl 0 rfl) ?_
  refine vk_getf hx hb hco hS hown (hts (.fieldLink RJ0 15 "java/lang/String" "coder" "B") (gwt 1545 (by decide +kernel) rfl)) (fun x hx => hx) dJ0_isLatin1_aae02_7 ?_
  refine lv_if_ne (tgt := 17) hx hb dJ0_isLatin1_aae02_10 (by decide) (fun h0 => absurd rfl h0) (fun _ => ?_)
  refine lv_iconst (v := 1) hx hb dJ0_isLatin1_aae02_13 (by decide) ?_
  refine lv_goto (tgt := 18) hx hb dJ0_isLatin1_aae02_14 (by decide) ?_
  exact W.zret hx hb hr (by decide) (fun t ht hW => ⟨⟨_, rfl, rfl⟩, ht⟩) (fun q hq => absurd hq List.not_mem_nil) dJ0_isLatin1_aae02_18
set_option maxHeartbeats 4000000 in
set_option maxRecDepth 100000 in
/-- length() -/
theorem gm_length (l : Launch) (a : Nat) (tx : List Nat) (hn : tx.length < 2 ^ 31) : Met l yJ0_length_8abf5 (gWs yJ0_length_8abf5 cJ0_length_8abf5 1 (some .int)) ({ frames := 2, cells := 0, slots := 0, locals := 40 }) (va_Pc [.ref a] (fun U => gEnv z ro cA D roArr U U.heap ∧ gTx tx a (gA z ro) U U.heap)) (gQn (fun x => x = nI tx.length)) 0 0 (fun _ => False) := by
  refine Met.ofW (cc := cJ0_length_8abf5) (maxL := 1) (ret := some .int) (by decide) rfl ?_
  intro p e s m args below meth c s₁ B hml hv
  obtain ⟨rfl, hE, v, hO, hco, hva, hT⟩ := hv
  have hx := B.exec
  have hb := B.bytes
  have hr := B.returns
  have hlocks := B.notSynchronized
  have hts0 := atoms_spec (ws := gWs yJ0_length_8abf5 cJ0_length_8abf5 1 (some .int)) B.pre
  have hts : ∀ w ∈ gw, w.before _ s = true := fun w h => hts0 w (List.mem_cons_of_mem _ h)
  have hown : s.vm.findClass RJ0 = some m.cls := findClass_of_methodNamed B.named
  have hS : va_S (gA z ro) s.heap s.heap [] := va_S.rf
  have hl := lv_entry ([.ref a]) (n := 1) (Nat.le_of_ble_eq_true rfl)
  rw [lg_entry_eq]
  generalize (lg_sl ([.ref a]) ++ List.replicate (1 - (lg_sl ([.ref a])).length) Slot.unset).toArray = ls at hl ⊢
  have hl : lv_has ls 1 [(0, .ref a)] := hl
  refine lv_aload_n hx hb dJ0_length_8abf5_0 rfl (lv_at hl 0 rfl) ?_
  refine vk_getf hx hb hva hS hown (hts (.fieldLink RJ0 9 "java/lang/String" "value" "[B") (gwt 1544 (by decide +kernel) rfl)) (fun x hx => hx) dJ0_length_8abf5_1 ?_
  refine va_tlen hx hb hT hS (v := nI tx.length) rfl dJ0_length_8abf5_4 ?_
  refine lv_aload_n hx hb dJ0_length_8abf5_5 rfl (lv_at hl 0 rfl) ?_
  refine g_calln (va_runV (n := 0) (C := RJ0) (As := []) (rest := [.int (nI tx.length)]) ⟨hx, hb, hml, hown, hts⟩ (gm_coder (z := z) (ro := ro) (cA := cA) (D := D) (roArr := roArr) l a tx) (cwV 0 hts (gGood (List.forall_mem_cons.mpr ⟨gwt 353 (by decide +kernel) rfl, List.forall_mem_cons.mpr ⟨gwt 354 (by decide +kernel) rfl, List.forall_mem_cons.mpr ⟨gwt 355 (by decide +kernel) rfl, List.forall_mem_cons.mpr ⟨gwt 12 (by decide +kernel) rfl, List.forall_mem_cons.mpr ⟨gwt 356 (by decide +kernel) rfl, fun w h => h⟩⟩⟩⟩⟩)) rfl rfl rfl (by decide +kernel) ⟨Nat.le_of_ble_eq_true rfl, Nat.le_of_ble_eq_true rfl⟩) ⟨fun a U g mk q => ⟨q.1, gEnv.blind q.2.1, q.2.2⟩, (by obtain ⟨cell, h1, h2, h3, -⟩ := hO; exact ⟨cell, h1, h2, h3⟩), fun U hU hW => ⟨rfl, hE.to hW (fun q _ _ => by rw [hU]), by rw [hU]; exact ⟨v, hO.moved hW.alike, hco.moved hW.alike, hva.moved hW.alike, hT.moved hW.alike⟩⟩⟩ rfl rfl hl.1 rfl (lv_room (Nat.le_of_ble_eq_true rfl)) dJ0_length_8abf5_6 ⟨Nat.le_refl _, Nat.le_refl _⟩) (fun x hx0 => ?_)
  subst hx0
  refine lv_ishr hx hb dJ0_length_8abf5_9 ?_
  exact W.iret hx hb hr (fun t ht hW => ⟨⟨_, rfl, sb_shr0 _⟩, ht⟩) (fun q hq => absurd hq List.not_mem_nil) dJ0_length_8abf5_10
set_option maxHeartbeats 4000000 in
set_option maxRecDepth 100000 in
/-- charAt(k), within -/
theorem gm_charAt (l : Launch) (a k : Nat) (tx : List Nat) (ch : Nat) (h : tx[k]? = some ch) (hc : ch < 128) (hn : tx.length < 2 ^ 31) : Met l yJ0_charAt_5068e (gWs yJ0_charAt_5068e cJ0_charAt_5068e 2 (some .char)) ({ frames := 4, cells := 0, slots := 0, locals := 100 }) (va_Pc [.ref a, .int (nI k)] (fun U => gEnv z ro cA D roArr U U.heap ∧ gTx tx a (gA z ro) U U.heap)) (gQn (fun x => x = nI ch)) 0 0 (fun _ => False) := by
  refine Met.ofW (cc := cJ0_charAt_5068e) (maxL := 2) (ret := some .char) (by decide) rfl ?_
  intro p e s m args below meth c s₁ B hml hv
  obtain ⟨rfl, hE, v, hO, hco, hva, hT⟩ := hv
  have hx := B.exec
  have hb := B.bytes
  have hr := B.returns
  have hlocks := B.notSynchronized
  have hts0 := atoms_spec (ws := gWs yJ0_charAt_5068e cJ0_charAt_5068e 2 (some .char)) B.pre
  have hts : ∀ w ∈ gw, w.before _ s = true := fun w h => hts0 w (List.mem_cons_of_mem _ h)
  have hown : s.vm.findClass RJ0 = some m.cls := findClass_of_methodNamed B.named
  have hS : va_S (gA z ro) s.heap s.heap [] := va_S.rf
  have hl := lv_entry ([.ref a, .int (nI k)]) (n := 2) (Nat.le_of_ble_eq_true rfl)
  rw [lg_entry_eq]
  generalize (lg_sl ([.ref a, .int (nI k)]) ++ List.replicate (2 - (lg_sl ([.ref a, .int (nI k)])).length) Slot.unset).toArray = ls at hl ⊢
  have hl : lv_has ls 2 [(0, .ref a), (1, .int (nI k))] := hl
  refine lv_aload_n hx hb dJ0_charAt_5068e_0 rfl (lv_at hl 0 rfl) ?_
  refine g_calln (va_runV (n := 0) (C := RJ0) (As := []) (rest := []) ⟨hx, hb, hml, hown, hts⟩ (gm_isLatin1 (z := z) (ro := ro) (cA := cA) (D := D) (roArr := roArr) l a tx) (cwV 0 hts (gGood (List.forall_mem_cons.mpr ⟨gwt 363 (by decide +kernel) rfl, List.forall_mem_cons.mpr ⟨gwt 364 (by decide +kernel) rfl, List.forall_mem_cons.mpr ⟨gwt 365 (by decide +kernel) rfl, List.forall_mem_cons.mpr ⟨gwt 12 (by decide +kernel) rfl, List.forall_mem_cons.mpr ⟨gwt 366 (by decide +kernel) rfl, fun w h => h⟩⟩⟩⟩⟩)) rfl rfl rfl (by decide +kernel) ⟨Nat.le_of_ble_eq_true rfl, Nat.le_of_ble_eq_true rfl⟩) ⟨fun a U g mk q => ⟨q.1, gEnv.blind q.2.1, q.2.2⟩, (by obtain ⟨cell, h1, h2, h3, -⟩ := hO; exact ⟨cell, h1, h2, h3⟩), fun U hU hW => ⟨rfl, hE.to hW (fun q _ _ => by rw [hU]), by rw [hU]; exact ⟨v, hO.moved hW.alike, hco.moved hW.alike, hva.moved hW.alike, hT.moved hW.alike⟩⟩⟩ rfl rfl hl.1 rfl (lv_room (Nat.le_of_ble_eq_true rfl)) dJ0_charAt_5068e_1 ⟨Nat.le_refl _, Nat.le_refl _⟩) (fun x hx0 => ?_)
  subst hx0
  refine lv_if_eq (tgt := 16) hx hb dJ0_charAt_5068e_4 (by decide) (fun h0 => absurd h0 (by decide)) (fun _ => ?_)
  refine lv_aload_n hx hb dJ0_charAt_5068e_7 rfl (lv_at hl 0 rfl) ?_
  refine vk_getf hx hb hva hS hown (hts (.fieldLink RJ0 9 "java/lang/String" "value" "[B") (gwt 1544 (by decide +kernel) rfl)) (fun x hx => hx) dJ0_charAt_5068e_8 ?_
  refine lv_iload_n hx hb dJ0_charAt_5068e_11 rfl (lv_at hl 1 rfl) ?_
  refine g_calln (va_runS (n := 2) (As := [.ref v, .int (nI k)]) (rest := []) ⟨hx, hb, hml, hown, hts⟩ (gm_lca (z := z) (ro := ro) (cA := cA) (D := D) (roArr := roArr) l v k tx ch h hc hn) (va_cwS 2 hts (gGood (List.forall_mem_cons.mpr ⟨gwt 367 (by decide +kernel) rfl, List.forall_mem_cons.mpr ⟨gwt 368 (by decide +kernel) rfl, List.forall_mem_cons.mpr ⟨gwt 13 (by decide +kernel) rfl, List.forall_mem_cons.mpr ⟨gwt 369 (by decide +kernel) rfl, fun w h => h⟩⟩⟩⟩)) rfl rfl rfl (by decide +kernel) ⟨Nat.le_of_ble_eq_true rfl, Nat.le_of_ble_eq_true rfl⟩) ⟨fun a U g mk q => ⟨q.1, gEnv.blind q.2.1, q.2.2⟩, fun U hU hW => ⟨rfl, hE.to hW (fun q _ _ => by rw [hU]), by rw [hU]; exact hT.moved hW.alike⟩⟩ rfl rfl hl.1 rfl (lv_room (Nat.le_of_ble_eq_true rfl)) dJ0_charAt_5068e_12 ⟨Nat.le_refl _, Nat.le_refl _⟩) (fun x hx0 => ?_)
  subst hx0
  refine W.zret hx hb hr ?_ (fun t ht hW => ⟨⟨_, rfl, rfl⟩, ht⟩) (fun q hq => absurd hq List.not_mem_nil) dJ0_charAt_5068e_15
  revert hc
  clear h
  revert ch
  decide +kernel
end JDK
end
section
/-! ===== what a formula of the ghost machine says of the machine ===== -/
/-- locals -/
def gAs (z : Nat) (ro : Nat → Nat) (ls : GL) : List (Nat × Value) := (List.range ls.length).filterMap fun i => match ls[i]? with
  | some (some v) => some (i, gv z ro v)
  | _ => none
theorem gAs_mem {z : Nat} {ro : Nat → Nat} {ls : GL} {i : Nat} {w : Value} : (i, w) ∈ gAs z ro ls ↔ ∃ v, ls[i]? = some (some v) ∧ w = gv z ro v := by
  unfold gAs
  rw [List.mem_filterMap]
  constructor
  · rintro ⟨j, hj, e⟩
    split at e
    · next v hv => cases e; exact ⟨v, hv, rfl⟩
    · cases e
  · rintro ⟨v, hv, rfl⟩
    refine ⟨i, List.mem_range.mpr (List.getElem?_eq_some_iff.mp hv).1, ?_⟩
    simp only [hv]
def gLoc (z : Nat) (ro : Nat → Nat) (lsr : Array Slot) (nL : Nat) (ls : GL) : Prop := lv_has lsr nL (gAs z ro ls)
theorem gv_cat {z : Nat} {ro : Nat → Nat} (v : Value) : (gv z ro v).category = v.category := by cases v <;> rfl
theorem gLoc.at {z : Nat} {ro : Nat → Nat} {lsr : Array Slot} {nL : Nat} {ls : GL} (h : gLoc z ro lsr nL ls) {i : Nat} {v : Value} (hv : ls[i]? = some (some v)) : lsr[i]? = some (.val (gv z ro v)) := h.2.2 (i, gv z ro v) (gAs_mem.mpr ⟨v, hv, rfl⟩)
theorem gLoc.sub {z : Nat} {ro : Nat → Nat} {lsr : Array Slot} {nL : Nat} {ls ls' : GL} (h : gLoc z ro lsr nL ls) (hs : ∀ (i : Nat) (v : Value), ls'[i]? = some (some v) → ls[i]? = some (some v)) : gLoc z ro lsr nL ls' := by
  refine ⟨h.1, h.2.1, fun q hq => ?_⟩
  obtain ⟨i, w⟩ := q
  obtain ⟨v, hv, rfl⟩ := gAs_mem.mp hq
  exact h.at (hs i v hv)
theorem gKill_get {ls : GL} {i j : Nat} {v : Value} (h : (gKill ls i)[j]? = some (some v)) : ls[j]? = some (some v) ∧ ¬ (j + 1 = i ∧ v.category = 2) := by
  unfold gKill at h
  split at h
  · exact ⟨h, fun q => by omega⟩
  · next i' =>
    have key : ∀ ls' : GL, ls' = ls.set i' none → ls'[j]? = some (some v) → ls[j]? = some (some v) ∧ ¬ (j + 1 = i' + 1 ∧ v.category = 2) := by
      intro ls' e h
      subst e
      rw [List.getElem?_set] at h
      by_cases e : i' = j
      · rw [if_pos e] at h
        split at h <;> cases h
      · rw [if_neg e] at h
        exact ⟨h, fun q => e (by omega)⟩
    split at h
    · exact key _ rfl h
    · exact key _ rfl h
    · next h1 h2 =>
      refine ⟨h, fun q => ?_⟩
      have e : j = i' := by omega
      subst e
      have c := q.2
      cases v with
      | double x => exact h1 x h
      | long x => exact h2 x h
      | _ => cases c
theorem gLoc.st1 {z : Nat} {ro : Nat → Nat} {lsr' : Array Slot} {nL : Nat} {ls : GL} {i : Nat} {x : Value}
    (h : lv_has lsr' nL ((i, gv z ro x) :: (gAs z ro ls).filter (fun q => !(q.1 == i) && !(q.1 + 1 == i && q.2.category == 2)))) : gLoc z ro lsr' nL (gSt1 ls i x) := by
  refine ⟨h.1, h.2.1, fun q hq => h.2.2 q ?_⟩
  obtain ⟨j, w⟩ := q
  obtain ⟨v, hv, rfl⟩ := gAs_mem.mp hq
  unfold gSt1 at hv
  rw [List.getElem?_set] at hv
  by_cases e : i = j
  · rw [if_pos e] at hv
    split at hv
    · cases hv
      subst e
      exact List.mem_cons_self
    · cases hv
  · rw [if_neg e] at hv
    obtain ⟨h1, h2⟩ := gKill_get hv
    refine List.mem_cons_of_mem _ (List.mem_filter.mpr ⟨gAs_mem.mpr ⟨v, h1, rfl⟩, ?_⟩)
    simp only [gv_cat, Bool.and_eq_true, Bool.not_eq_true', beq_eq_false_iff_ne, Bool.and_eq_false_iff]
    refine ⟨fun q => e q.symm, ?_⟩
    by_cases q : j + 1 = i
    · exact Or.inr fun c => h2 ⟨q, c⟩
    · exact Or.inl q
theorem gLoc.st2 {z : Nat} {ro : Nat → Nat} {lsr' : Array Slot} {nL : Nat} {ls : GL} {i : Nat} {x : Value}
    (h : lv_has lsr' nL ((i, gv z ro x) :: (gAs z ro ls).filter (fun q => !(q.1 == i) && (!(q.1 == i + 1) && !(q.1 + 1 == i && q.2.category == 2))))) : gLoc z ro lsr' nL (gSt2 ls i x) := by
  refine ⟨h.1, h.2.1, fun q hq => h.2.2 q ?_⟩
  obtain ⟨j, w⟩ := q
  obtain ⟨v, hv, rfl⟩ := gAs_mem.mp hq
  unfold gSt2 at hv
  rw [List.getElem?_set] at hv
  by_cases e1 : i + 1 = j
  · rw [if_pos e1] at hv
    split at hv <;> cases hv
  · rw [if_neg e1, List.getElem?_set] at hv
    by_cases e : i = j
    · rw [if_pos e] at hv
      split at hv
      · cases hv
        subst e
        exact List.mem_cons_self
      · cases hv
    · rw [if_neg e] at hv
      obtain ⟨h1, h2⟩ := gKill_get hv
      refine List.mem_cons_of_mem _ (List.mem_filter.mpr ⟨gAs_mem.mpr ⟨v, h1, rfl⟩, ?_⟩)
      simp only [gv_cat, Bool.and_eq_true, Bool.not_eq_true', beq_eq_false_iff_ne, Bool.and_eq_false_iff]
      refine ⟨fun q => e q.symm, fun q => e1 q.symm, ?_⟩
      by_cases q : j + 1 = i
      · exact Or.inr fun c => h2 ⟨q, c⟩
      · exact Or.inl q
theorem gCat_sum {z : Nat} {ro : Nat → Nat} : ∀ st : List Value, ((st.map (gv z ro)).map fun v => v.category).sum = gCat st
  | [] => rfl
  | v :: r => by
    have ih := gCat_sum (z := z) (ro := ro) r
    simp only [List.map_cons, List.sum_cons, gv_cat]
    rw [ih]
    cases v <;> rfl
/-- what a method's end gives -/
def gRes (z : Nat) (ro : Nat → Nat) (cA : FieldType → ClassId) (D : va_G) (roArr : Nat → Option (Nat × (Nat → Int32))) (P : GQ) (v : Option Value) (H : Heap) : Prop :=
  (∃ x G, v = some (.int x) ∧ P.1 x G ∧ gRep z ro cA D roArr G H) ∨ (∃ G, v = none ∧ P.2.1 G ∧ gRep z ro cA D roArr G H) ∨ (∃ k G, v = some (.ref (gAd z ro k)) ∧ P.2.2.1 k G ∧ gRep z ro cA D roArr G H) ∨
  (∃ x G, v = some (.double x) ∧ P.2.2.2.1 x G ∧ gRep z ro cA D roArr G H) ∨ (∃ x G, v = some (.float x) ∧ P.2.2.2.2.1 x G ∧ gRep z ro cA D roArr G H)
def gQc (z : Nat) (ro : Nat → Nat) (cA : FieldType → ClassId) (D : va_G) (roArr : Nat → Option (Nat × (Nat → Int32))) (P : GQ) : Array Value → State → Outcome → State → Prop := fun _ st oc t => (∃ v, oc = .returned v ∧ gRes z ro cA D roArr P v t.heap) ∧ va_F (gA z ro) st t
def gXC (z : Nat) (ro : Nat → Nat) (cA : FieldType → ClassId) (D : va_G) (roArr : Nat → Option (Nat × (Nat → Int32))) (P : GQ) : String → State → State → Prop := fun E st t => (∃ G, (∃ i, i < 3 ∧ E = gExc i) ∧ P.2.2.2.2.2 E G ∧ gRep z ro cA D roArr G t.heap) ∧ va_F (gA z ro) st t
def gPc (z : Nat) (ro : Nat → Nat) (cA : FieldType → ClassId) (D : va_G) (roArr : Nat → Option (Nat × (Nat → Int32))) (G : GH) (as : List Value) : Array Value → State → Prop := va_Pc (as.map (gv z ro)) (fun U => gRep z ro cA D roArr G U.heap ∧ gEnv z ro cA D roArr U U.heap)
theorem gPc.blind {z : Nat} {ro : Nat → Nat} {cA : FieldType → ClassId} {D : va_G} {roArr : Nat → Option (Nat × (Nat → Int32))} {G : GH} {as : List Value} : FrameBlind (gPc z ro cA D roArr G as) := fun a U g mk q => ⟨q.1, q.2.1, gEnv.blind q.2.2⟩
section CallG
variable {p : Program} {l : Launch} {e : Env} {R : Room} {s : State} {m : MethodId} {args : Array Value} {below : List Frame} {meth : Method} {c : Code} {H : Heap} {locs : List Loc} {cells slots : Nat} {Q : State → Prop} {pc : Nat} {ls : Array Slot} {rest st0 : List Value} {a : Array Value} {mc ms : Nat}
variable {z : Nat} {ro : Nat → Nat} {cA : FieldType → ClassId} {D : va_G} {roArr : Nat → Option (Nat × (Nat → Int32))} {P : GQ}
theorem g_keep {st₀ t T' : State} {L : List Loc} (h0 : st₀.heap = H) (e1 : T'.heap = t.heap) (hS : va_S (gA z ro) s.heap H locs) (hL : ∀ q ∈ L, gA z ro q.base) (hF : va_F (gA z ro) st₀ t) : va_S (gA z ro) s.heap T'.heap (locs ++ L) := by
  obtain ⟨hz, hk⟩ := hF
  rw [h0] at hz hk
  refine ⟨Nat.le_trans hS.1 (by rw [e1]; exact hz), fun q h1 h2 => by rw [e1, hk q (Nat.lt_of_lt_of_le h1 hS.1) h2]; exact hS.2.1 q h1 h2, fun q hq => ?_⟩
  rcases List.mem_append.mp hq with h | h
  · exact hS.2.2 q h
  · exact hL q h
theorem g_call (hr : va_Run p l e R s m args below meth c H locs cells slots mc ms (F0 m pc ls st0) rest (gQc z ro cA D roArr P a) (gA z ro)) (hS : va_S (gA z ro) s.heap H locs)
    (kk : ∀ v H1 locs1, gRes z ro cA D roArr P v H1 → va_S (gA z ro) s.heap H1 locs1 → W p l e R s m args below meth c H1 locs1 (cells + mc) (slots + ms) Q (F0 m (pc + 3) ls (v.toList ++ rest))) : W p l e R s m args below meth c H locs cells slots Q (F0 m pc ls st0) := by
  intro T hT X
  obtain ⟨v, st₀, t, T', L, h0, X', hL, e1, e2, ⟨⟨v', hv, hp⟩, hF⟩, st⟩ := hr T hT X
  cases hv
  obtain ⟨t2, a1, b1⟩ := kk v T'.heap (locs ++ L) (by rw [e1]; exact hp) (g_keep h0 e1 hS hL hF) T' rfl X'
  exact ⟨t2, st t2 a1, b1⟩
theorem g_callx (hr : vx_Run p l e R s m args below meth c H locs cells slots mc ms (F0 m pc ls st0) rest (gQc z ro cA D roArr P a) (gXC z ro cA D roArr P) (gA z ro)) (hS : va_S (gA z ro) s.heap H locs)
    (kx : ∀ (E : String) (ce : Cell) (q9 : Addr) (G : GH) (H1 : Heap) (locs1 : List Loc), (∃ i, i < 3 ∧ E = gExc i) → P.2.2.2.2.2 E G → gRep z ro cA D roArr G H1 → va_S (gA z ro) s.heap H1 locs1 → H1[q9]? = some ce → ce.vm = .none → s.vm.findClass E = some ce.cls → vx_W p l e R s m args below meth c H1 locs1 (cells + mc) (slots + ms) Q (F0 m pc ls rest) q9)
    (kk : ∀ v H1 locs1, gRes z ro cA D roArr P v H1 → va_S (gA z ro) s.heap H1 locs1 → W p l e R s m args below meth c H1 locs1 (cells + mc) (slots + ms) Q (F0 m (pc + 3) ls (v.toList ++ rest))) : W p l e R s m args below meth c H locs cells slots Q (F0 m pc ls st0) := by
  intro T hT X
  rcases hr T hT X with ⟨v, st₀, t, T', L, h0, X', hL, e1, e2, ⟨⟨v', hv, hp⟩, hF⟩, st⟩ | ⟨q, st₀, t, T', L, E, ce, h0, X', hL, e1, e2, ⟨⟨G, hE, hp, hb⟩, hF⟩, hce, hcv, hcl, st⟩
  · cases hv
    obtain ⟨t2, a1, b1⟩ := kk v T'.heap (locs ++ L) (by rw [e1]; exact hp) (g_keep h0 e1 hS hL hF) T' rfl X'
    exact ⟨t2, st t2 a1, b1⟩
  · obtain ⟨t2, a1, b1⟩ := kx E ce q G T'.heap (locs ++ L) hE hp (by rw [e1]; exact hb) (g_keep h0 e1 hS hL hF) (by rw [e1]; exact hce) hcv hcl T' rfl X'
    exact ⟨t2, st.trans a1, b1⟩
end CallG
end
section
/-! ===== what is to be checked of each entry of the tables ===== -/
def gNames : List String := ["java/lang/RuntimeException", "java/lang/Exception"]
def gLenE (i : Instr) (e : Nat) : Nat := match i with
  | .iload _ | .aload _ | .dload _ | .istore _ | .astore _ | .dstore _ | .bipush _ | .ldc _ | .newarray _ => 2
  | .sipush _ | .ldc_w _ | .getfield _ | .putfield _ | .getstatic _ | .ifCond _ _ | .if_icmp _ _ | .goto _ | .iinc _ _ | .new _ | .anewarray _ | .invokevirtual _ | .invokestatic _ | .invokespecial _ => 3
  | .tableswitch _ _ _ _ => e
  | _ => 1
def gIsRef : Option FieldType → Bool
  | some (.object _) => true
  | some (.array _) => true
  | _ => false
/-- a call of a method of the program: room, arguments -/
def gCk (m a b c d : Nat) : Bool := decide (gFrames a + 1 ≤ gFrames m) && decide (8 + (gMaxL a + 11) + gLocs a ≤ gLocs m) && (c == gCells a) && (d == gSlots a) && decide ((gY a).cls ≠ "java/lang/invoke/MethodHandle") && decide ((gY a).cls ≠ "java/lang/invoke/VarHandle") && decide ((parseMethodDescriptor (gY a).desc).map (fun q => q.parameters.length) = some b) && plainName (gY a).cls && decide (gMaxL a ≥ b)
def gChk (m pc : Nat) (E : GE) : Bool := match E with
  | (i, n, a, b, c, d, e) => decide (decode (gCode m) pc = .ok (i, gLenE i e)) && (n == pc + gLenE i e) && (match i with
    | .iconst v => decide (Int32.ofInt v = gK b a)
    | .bipush v => decide ((Int8.ofInt v).toInt32 = gK b a)
    | .sipush v => decide ((Int16.ofInt v).toInt32 = gK b a)
    | .iinc k v => decide (k < gMaxL m) && decide (Int32.ofInt v = gK b a)
    | .istore_n k => decide ((k : Nat) < gMaxL m)
    | .astore_n k => decide ((k : Nat) < gMaxL m)
    | .istore k => decide (k < gMaxL m)
    | .astore k => decide (k < gMaxL m)
    | .dstore k => decide (k + 1 < gMaxL m)
    | .fconst k => decide (k = 0)
    | .dconst k => decide (k = 0)
    | .ifCond _ o => decide ((pc : Int) + o = (a : Int))
    | .if_icmp _ o => decide ((pc : Int) + o = (a : Int))
    | .goto o => decide ((pc : Int) + o = (a : Int))
    | .tableswitch dflt lo hi os => decide ((pc : Int) + dflt = (a : Int)) && os.toList.all (fun o => decide (0 ≤ (pc : Int) + o)) && decide (hi - lo + 1 = (os.size : Int))
    | .ireturn => bif a == 0 then decide (gRet m = some .int) else decide (gRet m = some .boolean)
    | .areturn => gIsRef (gRet m)
    | .dreturn => decide (gRet m = some .double)
    | .freturn => decide (gRet m = some .float)
    | .return_ => decide (gRet m = none)
    | .new _ => bif e == 0 then true else decide (a < 3) && decide (decode (gCode m) (pc + 3) = .ok (.dup, 1)) && (bif b == 0 then decide (decode (gCode m) (pc + 4) = .ok (.ldc c, 2)) && decide (decode (gCode m) (pc + 6) = .ok (.invokespecial d, 3)) && decide (decode (gCode m) (pc + 9) = .ok (.athrow, 1)) else decide (decode (gCode m) (pc + 4) = .ok (.ldc_w c, 3)) && decide (decode (gCode m) (pc + 7) = .ok (.invokespecial d, 3)) && decide (decode (gCode m) (pc + 10) = .ok (.athrow, 1))) && decide (6 ≤ gFrames m) && decide (140 ≤ gLocs m) && (gHh m).isEmpty && (gHT m).isEmpty
    | .invokevirtual _ => bif Nat.ble 20 e then decide (6 ≤ gFrames m) && decide (160 ≤ gLocs m) else gCk m a (b - 1) c d && Nat.blt 0 b && Nat.ble b (gMaxL a)
    | .invokestatic _ => bif Nat.ble 20 e then decide (2 ≤ gFrames m) && decide (8 + (nativeFrameWords "java/lang/System" "arraycopy" 5 + 11) ≤ gLocs m) && decide (21 ≤ gLocs m) else gCk m a b c d
    | .invokespecial _ => bif Nat.ble 20 e then decide (2 ≤ gFrames m) && decide (20 ≤ gLocs m) else gCk m a (b - 1) c d && Nat.blt 0 b && Nat.ble b (gMaxL a)
    | _ => true)
/-- the words of a method that is called: on an object, by its class, as a constructor -/
def gMwV (a : Nat) : Prop := Cond.instanceMethod (gY a) ∈ gw ∧ Cond.selects (gY a).cls (gY a) (gY a) ∈ gw ∧ Cond.initialized (gY a).cls ∈ gw ∧ Cond.code (gY a) (gCode a) (gMaxL a) (gRet a) ∈ gw ∧ gHT a = [] ∧ gHh a = []
def gMwS (a : Nat) : Prop := Cond.static (gY a) ∈ gw ∧ Cond.initialized (gY a).cls ∈ gw ∧ ((gHT a = [] ∧ gHh a = [] ∧ Cond.code (gY a) (gCode a) (gMaxL a) (gRet a) ∈ gw) ∨ Cond.codeWith (gY a) (gCode a) (gMaxL a) (gRet a) (gHT a) ∈ gw)
def gMwI (a : Nat) : Prop := Cond.instanceMethod (gY a) ∈ gw ∧ Cond.initialized (gY a).cls ∈ gw ∧ Cond.code (gY a) (gCode a) (gMaxL a) none ∈ gw ∧ gHT a = [] ∧ gHh a = [] ∧ (gY a).name = "<init>" ∧ gRet a = none
/-- the words of 'throw new cls(text)' -/
def gTw (own : String) (ik ic : Nat) (cls : String) : Prop := Cond.classLink own ik cls ∈ gw ∧ Cond.initialized cls ∈ gw ∧ (∀ w ∈ vx_atS own ic cls gNames, w ∈ gw ∨ w ∈ gnw) ∧ Bundle.fit cls = true
def gLnk (m : Nat) (E : GE) : Prop := match E with
  | (i, _, a, b, c, d, e) => match i with
    | .getfield idx => ∃ C T N, vwCl[a]? = some (C, T, N) ∧ b < N ∧ (T b).1 = C ∧ Cond.fieldLink (gY m).cls idx C (T b).2.1 (T b).2.2.1 ∈ gw
    | .putfield idx => ∃ C T N ty, vwCl[a]? = some (C, T, N) ∧ b < N ∧ (T b).1 = C ∧ Cond.fieldLink (gY m).cls idx C (T b).2.1 (T b).2.2.1 ∈ gw ∧ parseFieldDescriptor (T b).2.2.1 = some ty ∧ ((c = 0 ∧ ty = .int) ∨ (c = 1 ∧ gIsRef (some ty) = true) ∨ (c = 2 ∧ ty = .boolean)) ∧ ((T b).2.2.2 = true → C = (gY m).cls ∧ (gY m).name = "<init>")
    | .getstatic idx => ∃ j q, gStats[j]? = some q ∧ a = gRB + j ∧ Cond.fieldLink (gY m).cls idx q.1 q.2.1 q.2.2 ∈ gw
    | .ldc idx => (match e with
      | 0 => Cond.constant (gY m).cls idx (gK b a) ∈ gw
      | _ => gRB ≤ a ∧ ∃ tx, ((gY m).cls, idx, tx, a) ∈ gPool)
    | .ldc_w idx => (match e with
      | 0 => False
      | _ => gRB ≤ a ∧ ∃ tx, ((gY m).cls, idx, tx, a) ∈ gPool)
    | .new idx => (match e with
      | 0 => ∃ C T N, vwCl[a]? = some (C, T, N) ∧ b = N ∧ Cond.classLink (gY m).cls idx C ∈ gw ∧ Cond.instantiable C N ∈ gw ∧ Cond.initialized C ∈ gw
      | _ => gTw (gY m).cls idx d (gExc a) ∧ ∃ tx, ((gY m).cls, c, tx) ∈ gMsgs)
    | .anewarray idx => Cond.classLink (gY m).cls idx "TrunkDuel$State" ∈ gw
    | .newarray ty => Cond.arrayClass (newarray.typeOf ty) ∈ gw
    | .invokevirtual idx => (match e with
      | 0 | 1 | 2 | 3 | 4 | 10 | 11 => Cond.methodLink (gY m).cls idx (gY a) ∈ gw ∧ gMwV a
      | 23 => Cond.methodLink (gY m).cls idx yJ0_length_8abf5 ∈ gw
      | 24 => Cond.methodLink (gY m).cls idx yJ0_charAt_5068e ∈ gw
      | 27 => Cond.methodLink (gY m).cls idx yJ0_length_8abf5 ∈ gw
      | 28 => Cond.methodLink (gY m).cls idx yJ0_charAt_5068e ∈ gw
      | _ => False)
    | .invokestatic idx => (match e with
      | 0 | 1 | 2 | 3 | 4 => Cond.methodLink (gY m).cls idx (gY a) ∈ gw ∧ gMwS a
      | 10 | 11 => Cond.methodLink (gY m).cls idx (gY a) ∈ gw ∧ gMwS a ∧ gHT a = []
      | 20 => Cond.methodLink (gY m).cls idx Lib.Math.min.name ∈ gw
      | 21 => Cond.methodLink (gY m).cls idx Lib.Math.max.name ∈ gw
      | 22 => Cond.methodLink (gY m).cls idx Lib.Math.abs.name ∈ gw
      | 25 => Cond.methodLink (gY m).cls idx arraycopyName ∈ gw
      | _ => False)
    | .invokespecial idx => (match e with
      | 1 => (Cond.methodLink (gY m).cls idx (gY a) ∈ gw ∨ Cond.methodLinkNest (gY m).cls idx (gY a) "TrunkDuel" ∈ gnw) ∧ gMwI a
      | 26 => Cond.methodLink (gY m).cls idx objectInit ∈ gw
      | _ => False)
    | _ => True
/-- a method's handlers: the table of the class file, and the ghost's -/
def gHdl (m : Nat) : List (Nat × Nat × Nat × Nat) → GHd → Prop
  | [], [] => True
  | (s, t, h, ci) :: r, (s', t', h', k, nm) :: r' => s = s' ∧ t = t' ∧ ci ≠ 0 ∧ k < gMaxL m ∧ ((∃ f : Fin 4, (f : Nat) = k ∧ decode (gCode m) h = .ok (.astore_n f, 1) ∧ h' = h + 1) ∨ (decode (gCode m) h = .ok (.astore k, 2) ∧ h' = h + 2)) ∧ Cond.classLink (gY m).cls ci nm ∈ gw ∧ (∃ i, i < 3 ∧ nm = gExc i) ∧ Cond.castable nm nm ∈ gnw ∧ gHdl m r r'
  | _, _ => False
/-- all that the tables rest on -/
def gFacts : Prop := (∀ m pc E, gLook (gTab m) pc = some E → gChk m pc E = true ∧ gLnk m E) ∧ (∀ m, gHdl m (gHT m) (gHh m)) ∧
  (∀ ci C T N, vwCl[ci]? = some (C, T, N) → (∀ w ∈ u_ws C T N, w ∈ gw) ∧ (∃ ty : Nat → FieldType, (∀ k, k < N → parseFieldDescriptor (T k).2.2.1 = some (ty k)) ∧ (gBlk ci).length = N ∧ (∀ k, k < N → defaultValue (ty k) = vp_V (gBlk ci) k)) ∧ (∀ a, a < N → ∀ b, b < N → a ≠ b → (T a).2.1 ≠ (T b).2.1)) ∧
  (Cond.static Lib.Math.min.name ∈ gw ∧ Cond.static Lib.Math.max.name ∈ gw ∧ Cond.static Lib.Math.abs.name ∈ gw ∧ Cond.initialized "java/lang/Math" ∈ gw ∧ Cond.code Lib.Math.min.name Lib.Math.min.code 2 (some .int) ∈ gw ∧ Cond.code Lib.Math.max.name Lib.Math.max.code 2 (some .int) ∈ gw ∧ Cond.code Lib.Math.abs.name Lib.Math.abs.code 1 (some .int) ∈ gw) ∧
  (Cond.native arraycopyName ∈ gw ∧ Cond.static arraycopyName ∈ gw ∧ Cond.initialized "java/lang/System" ∈ gw) ∧ (Cond.instanceMethod objectInit ∈ gw ∧ Cond.code objectInit ⟨#[0xb1]⟩ 1 none ∈ gw) ∧
  (∀ w ∈ [Cond.instanceMethod yJ0_length_8abf5, Cond.selects RJ0 yJ0_length_8abf5 yJ0_length_8abf5, Cond.initialized RJ0, Cond.code yJ0_length_8abf5 cJ0_length_8abf5 1 (some .int), Cond.instanceMethod yJ0_charAt_5068e, Cond.selects RJ0 yJ0_charAt_5068e yJ0_charAt_5068e, Cond.code yJ0_charAt_5068e cJ0_charAt_5068e 2 (some .char)], w ∈ gw)
end
section
/-! ===== rows over the ghost heap that keep the heap's size in sight ===== -/
section GRows
variable {p : Program} {l : Launch} {e : Env} {R : Room} {s : State} {m : MethodId} {args : Array Value} {below : List Frame} {meth : Method} {c : Code} {H : Heap} {locs : List Loc} {cells slots : Nat} {Q : State → Prop}
variable {cc : ByteArray} {pc : Nat} {ls : Array Slot} {rest : List Value}
variable {z : Nat} {ro : Nat → Nat} {cA : FieldType → ClassId} {D : va_G} {roArr : Nat → Option (Nat × (Nat → Int32))} {G : GH}
theorem g_noobj {ty : FieldType} {a : vp_A} : ∀ ci fs, (Sum.inr (ty, a) : GC) = .inl (ci, fs) → ∃ q, vwCl[ci]? = some q ∧ fs.length = q.2.2 := fun _ _ h => by cases h
theorem g_arr (hK : va_K D vwCl (gTys cA) s) {i : Nat} {ty : FieldType} (h : gTy[i]? = some ty) : ArrOfT s (cA ty) ty ∧ va_RA s (cA ty) ty := hK.2 i (cA ty, ty) (by simp [gTys, h])
theorem g_gA {o n : Nat} (ho : o < gRB) (h1 : n ≤ 248 ∨ ro 99999 = 0) (h2 : o ≤ n) : gA z ro (gAd z ro o) := by
  simp only [gA, gAd, ho, if_true]
  rcases h1 with h1 | h1
  · exact ⟨by omega, Or.inl (by omega)⟩
  · exact ⟨by omega, Or.inr (by omega)⟩
theorem vp_sti (cB : ClassId) (n : Nat) (f : Nat → Int32) (k : Nat) (x : Int32) : (vp_cell cB (n, .inl f)).setSlot k (.int x) = vp_cell cB (n, .inl (upd f k x)) := by
  rw [vp_cell_i, vp_cell_i, arrV_store]
  congr 1
  funext q
  by_cases hq : q = k
  · subst hq; simp [updV, upd]
  · simp [updV, upd, hq]
theorem vp_stl (cB : ClassId) (n : Nat) (f : Nat → Int64) (k : Nat) (x : Int64) : (vp_cell cB (n, .inr (.inl f))).setSlot k (.long x) = vp_cell cB (n, .inr (.inl (vp_updL f k x))) := by
  rw [vp_cell_l, vp_cell_l, arrV_store]
  congr 1
  funext q
  by_cases hq : q = k
  · subst hq; simp [updV, vp_updL]
  · simp [updV, vp_updL, hq]
theorem vp_stq (cB : ClassId) (n : Nat) (f : Nat → Option Nat) (k : Nat) (x : Nat) : (vp_cell cB (n, .inr (.inr (.inr (.inr f))))).setSlot k (.ref x) = vp_cell cB (n, .inr (.inr (.inr (.inr (va_up f k (some x)))))) := by
  rw [vp_cell_q, vp_cell_q, arrV_store]
  congr 1
  funext q
  by_cases hq : q = k
  · subst hq; simp [updV, va_up, va_rf]
  · simp [updV, va_up, hq]
theorem vp_size_i (cB : ClassId) (n : Nat) (f : Nat → Int32) : (vp_cell cB (n, .inl f)).slots.size = n := by rw [vp_cell_i, arrV_size]
theorem vp_size_l (cB : ClassId) (n : Nat) (f : Nat → Int64) : (vp_cell cB (n, .inr (.inl f))).slots.size = n := by rw [vp_cell_l, arrV_size]
theorem vp_size_q (cB : ClassId) (n : Nat) (f : Nat → Option Nat) : (vp_cell cB (n, .inr (.inr (.inr (.inr f))))).slots.size = n := by rw [vp_cell_q, arrV_size]
theorem g_iast (hx : p.tables.exec = Jvm.exec) (hb : c.code = cc) (hK : va_K D vwCl (gTys cA) s) (hr : gRep z ro cA D roArr G H) (hS : va_S (gA z ro) s.heap H locs) {o n : Nat} {f : Nat → Int32} (ho : o < gRB) (hG : G.2 o = some (.inr (.int, n, .inl f))) {i x : Int32} (hin : vp_in i n) (hdg : decode cc pc = .ok (.iastore, 1))
    (kk : ∀ H1 locs1, gRep z ro cA D roArr (gU G o (.inr (.int, n, .inl (upd f i.toNatClampNeg x)))) H1 → va_S (gA z ro) s.heap H1 locs1 → W p l e R s m args below meth c H1 locs1 cells slots Q (F0 m (pc + 1) ls rest)) :
    W p l e R s m args below meth c H locs cells slots Q (F0 m pc ls (.int x :: .int i :: .ref (gAd z ro o) :: rest)) := by
  obtain ⟨n', h1, h2, h3, hP, hw⟩ := hr.at ho hG
  refine W.iast hx hb (hP _ _ hw) ((g_arr hK (i := 0) rfl).1 n (fun j => .int (f j))) (fun q => by cases q) (by show ¬ (i < 0 ∨ (vp_cell _ _).slots.size ≤ _); rw [show gAr z ro (n, .inl f) = (n, .inl f) from rfl, vp_size_i]; exact hin) rfl rfl hdg fun H1 e1 e2 e3 => ?_
  refine kk H1 _ (hr.store ho hG e2 (fun n h1 h2 hP => hP.set (gWorld_D h1) (gWorld_at2 ho hG h2) ?_ e3) g_noobj) (hS.put e2 e3 (g_gA ho h1 h2))
  show H1[_]? = some (vp_cell _ _)
  rw [e1]
  exact congrArg some (vp_sti _ _ _ _ _)
theorem g_zast (hx : p.tables.exec = Jvm.exec) (hb : c.code = cc) (hK : va_K D vwCl (gTys cA) s) (hr : gRep z ro cA D roArr G H) (hS : va_S (gA z ro) s.heap H locs) {o n : Nat} {f : Nat → Int32} (ho : o < gRB) (hG : G.2 o = some (.inr (.boolean, n, .inl f))) {i x : Int32} (hin : vp_in i n) (hx0 : x = nI 0 ∨ x = nI 1) (hdg : decode cc pc = .ok (.bastore, 1))
    (kk : ∀ H1 locs1, gRep z ro cA D roArr (gU G o (.inr (.boolean, n, .inl (upd f i.toNatClampNeg x)))) H1 → va_S (gA z ro) s.heap H1 locs1 → W p l e R s m args below meth c H1 locs1 cells slots Q (F0 m (pc + 1) ls rest)) :
    W p l e R s m args below meth c H locs cells slots Q (F0 m pc ls (.int x :: .int i :: .ref (gAd z ro o) :: rest)) := by
  obtain ⟨n', h1, h2, h3, hP, hw⟩ := hr.at ho hG
  have hn : narrow .boolean (.int x) = .int x := by rcases hx0 with rfl | rfl <;> rfl
  refine W.zast hx hb (hP _ _ hw) ((g_arr hK (i := 1) rfl).1 n (fun j => .int (f j))) (fun q => by cases q) (by show ¬ (i < 0 ∨ (vp_cell _ _).slots.size ≤ _); rw [show gAr z ro (n, .inl f) = (n, .inl f) from rfl, vp_size_i]; exact hin) rfl rfl hdg fun H1 e1 e2 e3 => ?_
  refine kk H1 _ (hr.store ho hG e2 (fun n h1 h2 hP => hP.set (gWorld_D h1) (gWorld_at2 ho hG h2) ?_ e3) g_noobj) (hS.put e2 e3 (g_gA ho h1 h2))
  show H1[_]? = some (vp_cell _ _)
  rw [e1, hn]
  exact congrArg some (vp_sti _ _ _ _ _)
theorem g_last (hx : p.tables.exec = Jvm.exec) (hb : c.code = cc) (hK : va_K D vwCl (gTys cA) s) (hr : gRep z ro cA D roArr G H) (hS : va_S (gA z ro) s.heap H locs) {o n : Nat} {f : Nat → Int64} (ho : o < gRB) (hG : G.2 o = some (.inr (.long, n, .inr (.inl f)))) {i : Int32} {x : Int64} (hin : vp_in i n) (hdg : decode cc pc = .ok (.lastore, 1))
    (kk : ∀ H1 locs1, gRep z ro cA D roArr (gU G o (.inr (.long, n, .inr (.inl (vp_updL f i.toNatClampNeg x))))) H1 → va_S (gA z ro) s.heap H1 locs1 → W p l e R s m args below meth c H1 locs1 cells slots Q (F0 m (pc + 1) ls rest)) :
    W p l e R s m args below meth c H locs cells slots Q (F0 m pc ls (.long x :: .int i :: .ref (gAd z ro o) :: rest)) := by
  obtain ⟨n', h1, h2, h3, hP, hw⟩ := hr.at ho hG
  refine W.last hx hb (hP _ _ hw) ((g_arr hK (i := 2) rfl).1 n (fun j => .long (f j))) (fun q => by cases q) (by show ¬ (i < 0 ∨ (vp_cell _ _).slots.size ≤ _); rw [show gAr z ro (n, .inr (.inl f)) = (n, .inr (.inl f)) from rfl, vp_size_l]; exact hin) rfl rfl hdg fun H1 e1 e2 e3 => ?_
  refine kk H1 _ (hr.store ho hG e2 (fun n h1 h2 hP => hP.set (gWorld_D h1) (gWorld_at2 ho hG h2) ?_ e3) g_noobj) (hS.put e2 e3 (g_gA ho h1 h2))
  show H1[_]? = some (vp_cell _ _)
  rw [e1]
  exact congrArg some (vp_stl _ _ _ _ _)
theorem g_qast (hx : p.tables.exec = Jvm.exec) (hb : c.code = cc) (hK : va_K D vwCl (gTys cA) s) (hr : gRep z ro cA D roArr G H) (hS : va_S (gA z ro) s.heap H locs) {o y n : Nat} {f : Nat → Option Nat} {fs : List Value} (ho : o < gRB) (hy : y < gRB) (hG : G.2 o = some (.inr (.object "TrunkDuel$State", n, .inr (.inr (.inr (.inr f)))))) (hv : G.2 y = some (.inl (8, fs))) {i : Int32} (hin : vp_in i n) (hdg : decode cc pc = .ok (.aastore, 1))
    (kk : ∀ H1 locs1, gRep z ro cA D roArr (gU G o (.inr (.object "TrunkDuel$State", n, .inr (.inr (.inr (.inr (va_up f i.toNatClampNeg (some y)))))))) H1 → va_S (gA z ro) s.heap H1 locs1 → W p l e R s m args below meth c H1 locs1 cells slots Q (F0 m (pc + 1) ls rest)) :
    W p l e R s m args below meth c H locs cells slots Q (F0 m pc ls (.ref (gAd z ro y) :: .int i :: .ref (gAd z ro o) :: rest)) := by
  have hlt : i.toNatClampNeg < n := Nat.not_le.mp fun q => hin (Or.inr q)
  have h0 : ¬ i < 0 := fun q => hin (Or.inl q)
  obtain ⟨n', h1, h2, h3, hP, hw⟩ := hr.at ho hG
  obtain ⟨n2, -, -, -, hP2, hw2⟩ := hr.at hy hv
  obtain ⟨r', hr', cellV, g1, g2, g3, -⟩ := hP2 _ _ hw2
  have hcls := (hK.1 8 _ hr').2
  have hr8 : r' = (RX8, TX8, 6) := Option.some.inj (hr'.symm.trans rfl)
  subst hr8
  obtain ⟨kA, comp, k1, k2, k3, -⟩ := (g_arr hK (i := 3) rfl).2
  have hcomp : comp = D.1 8 := Option.some.inj (k3.symm.trans hcls.1)
  subst hcomp
  obtain ⟨kC, hkC, -⟩ := hcls.2
  refine W.aast hx hb (hP _ _ hw) (fun q h => by cases h) (fun h => by cases h) k1 k2 rfl hkC ⟨h0, by show _ < (vp_cell _ _).slots.size; rw [show gAr z ro (n, .inr (.inr (.inr (.inr f)))) = (n, .inr (.inr (.inr (.inr fun j => (f j).map (gAd z ro))))) from rfl, vp_size_q]; exact hlt⟩ g1 (fun q h => by rw [g3] at h; cases h) (by rw [g2]; exact hkC) (by rw [g2]; exact va_assign hcls) rfl rfl hdg fun H1 e1 e2 e3 => ?_
  refine kk H1 _ (hr.store ho hG e2 (fun n2 h1 h2 hP => hP.set (gWorld_D h1) (gWorld_at2 ho hG h2) ?_ e3) g_noobj) (hS.put e2 e3 (g_gA ho h1 h2))
  show H1[_]? = some (vp_cell _ _)
  rw [e1]
  refine congrArg some ((vp_stq _ _ _ _ _).trans ?_)
  have e : va_up (fun j => Option.map (gAd z ro) (f j)) i.toNatClampNeg (some (gAd z ro y)) = (fun j => Option.map (gAd z ro) (va_up f i.toNatClampNeg (some y) j)) := by
    funext q
    by_cases hq : q = i.toNatClampNeg
    · subst hq; simp [va_up]
    · simp [va_up, hq]
  exact congrArg (fun F => vp_cell (cA (.object "TrunkDuel$State")) (n, .inr (.inr (.inr (.inr F))))) e
end GRows
end
section
/-! ===== what stays of a method's frame; rows of fields, makings, copies over the ghost heap ===== -/
def gCtx (z : Nat) (ro : Nat → Nat) (cA : FieldType → ClassId) (D : va_G) (roArr : Nat → Option (Nat × (Nat → Int32))) (m : Nat) (p : Program) (l : Launch) (R : Room) (s : State) (mid : MethodId) (args : Array Value) (meth : Method) (c : Code) : Prop :=
  p.tables.exec = Jvm.exec ∧ c.code = gCode m ∧ c.maxLocals = gMaxL m ∧ meth.sig.returnType = gRet m ∧ s.vm.findClass (gY m).cls = some mid.cls ∧ (∀ w ∈ gw, w.before args s = true) ∧ meth.locks = false ∧ meth.name = (gY m).name ∧ gEnv z ro cA D roArr s s.heap ∧ l.stackTraces = false ∧ c.exceptionTable.toList = tableOf (gHT m) ∧ gFrames m ≤ R.frames ∧ gLocs m ≤ R.locals
theorem vp_size_any (cB : ClassId) (a : vp_A) : (vp_cell cB a).slots.size = a.1 := by
  rcases a with ⟨n, f | f | f | f | f⟩
  · rw [vp_cell_i, arrV_size]
  · rw [vp_cell_l, arrV_size]
  · show (arrV _ _ _).slots.size = _
    rw [arrV_size]
  · show (arrV _ _ _).slots.size = _
    rw [arrV_size]
  · rw [vp_cell_q, arrV_size]
theorem va_nn {x : Int32} (hx : ¬ x < 0) : x.toInt = (x.toNatClampNeg : Int) := by
  have hz0 : (0 : Int) ≤ x.toInt := by
    have := Int32.not_lt.mp hx
    simpa using Int32.le_iff_toInt_le.mp this
  show x.toInt = ((x.toInt.toNat : Nat) : Int)
  omega
section GRows2
variable {p : Program} {l : Launch} {e : Env} {R : Room} {s : State} {m : MethodId} {args : Array Value} {below : List Frame} {meth : Method} {c : Code} {H : Heap} {locs : List Loc} {cells slots : Nat} {Q : State → Prop}
variable {cc : ByteArray} {pc : Nat} {ls : Array Slot} {rest : List Value}
variable {z : Nat} {ro : Nat → Nat} {cA : FieldType → ClassId} {D : va_G} {roArr : Nat → Option (Nat × (Nat → Int32))} {G : GH}
/-- putfield, of a field that is final or isn't -/
theorem g_put (hx : p.tables.exec = Jvm.exec) (hb : c.code = cc) {own C : String} {T : u_T} {N ci index k o : Nat} {fs : List Value} {v : Value} {ty : FieldType} (hts : ∀ w ∈ gw, w.before args s = true) (hin : ∀ w ∈ u_ws C T N, w ∈ gw) (ty0 : Nat → FieldType) (hty : ∀ k, k < N → parseFieldDescriptor (T k).2.2.1 = some (ty0 k)) (hnm : ∀ a, a < N → ∀ b, b < N → a ≠ b → (T a).2.1 ≠ (T b).2.1)
    (hown : s.vm.findClass own = some m.cls) (hK : va_K D vwCl (gTys cA) s) (hr : gRep z ro cA D roArr G H) (hS : va_S (gA z ro) s.heap H locs) (ho : o < gRB) (hG : G.2 o = some (.inl (ci, fs))) (hc : vwCl[ci]? = some (C, T, N)) (hk : k < N) (hT : (T k).1 = C)
    (hlink : (Cond.fieldLink own index C (T k).2.1 (T k).2.2.1).before args s = true) (hfin : (T k).2.2.2 = true → C = own ∧ meth.name = "<init>") (hd : parseFieldDescriptor (T k).2.2.1 = some ty) (hn : narrow ty (gv z ro v) = gv z ro v) (hfit : fits ty (gv z ro v) = true) (hdg : decode cc pc = .ok (.putfield index, 3))
    (kk : ∀ H1 locs1, gRep z ro cA D roArr (gU G o (.inl (ci, fs.set k v))) H1 → va_S (gA z ro) s.heap H1 locs1 → W p l e R s m args below meth c H1 locs1 cells slots Q (F0 m (pc + 3) ls rest)) :
    W p l e R s m args below meth c H locs cells slots Q (F0 m pc ls (gv z ro v :: .ref (gAd z ro o) :: rest)) := by
  obtain ⟨n', h1, h2, h3, hP, hw⟩ := hr.at ho hG
  have hlen : fs.length = N := by
    obtain ⟨_, _, _, _, _, _, h6⟩ := hr
    obtain ⟨q, a, b⟩ := h6 o ci fs ho hG
    rw [hc] at a
    cases a
    exact b
  have hl : k < (fs.map (gv z ro)).length := by simp [hlen, hk]
  have hap := va_apart (own := own) hts hin ty0 hty hnm hK hc
  obtain ⟨r, e1, cell, q1, q2, q3, q4⟩ := hP _ _ hw
  have hr' : r = (C, T, N) := Option.some.inj (e1.symm.trans hc)
  subst hr'
  obtain ⟨hSl, hfc, kC, hkC, hkind⟩ := hK.1 ci _ hc
  obtain ⟨cf, kf, fi, f, hi, hsl⟩ := hSl k hk
  have hlay := hts _ (hin _ (u_in_lay hk))
  have hst := (u_facts hfc hkC (u_lays hts hin hk) hi).1
  have hsame : ∀ x, s.fieldFound? (T k).1 (T k).2.1 (T k).2.2.1 = some x → s.fieldFound? C (T k).2.1 (T k).2.2.1 = some x := fun x hx => by rw [hT] at hx; exact hx
  have fin : ∀ H' : Heap, H'[gAd z ro o]? = some (cell.setSlot f.slot (gv z ro v)) → H'.size = H.size → (∀ q, q ≠ gAd z ro o → H'[q]? = H[q]?) → W p l e R s m args below meth c H' (locs ++ [⟨gAd z ro o, f.slot⟩]) cells slots Q (F0 m (pc + 3) ls rest) := by
    intro H' e1 e2 e3
    refine kk H' _ (hr.store ho hG e2 (fun n a b hP2 => ?_) (fun ci' fs' h => by cases h; exact ⟨_, hc, by simp [hlen]⟩)) (hS.put e2 e3 (g_gA ho h1 h2))
    rw [hsl] at e1
    have key := hP2.set (D := D) (gWorld_D a) (gWorld_at2 ho hG b) (e := .inr (ci, (fs.map (gv z ro)).set k (gv z ro v))) (H1 := H') ⟨_, hc, t_OB.to (V := updV (vp_V (fs.map (gv z ro))) k (gv z ro v)) ⟨_, e1, q2, q3, t_set q4 hap hk _⟩ (fun j _ => vp_updV_set hl _ j)⟩ e3
    rw [← List.map_set] at key
    exact key
  cases hf : (T k).2.2.2 with
  | false =>
    unfold u_lay at hlay
    rw [if_neg (by rw [hf]; decide)] at hlay
    have h6 := u_store hfc hkC hkind hlay hi hd hn hfit
    exact W.putK hx hb (f := f) ⟨hown, hlink, ⟨_, _, _, hsame _ hi⟩, hst⟩ (by rw [q2]; exact h6) q1 q3 (by rw [hsl]; exact k2_hasslot (q4 k hk)) rfl rfl hdg fin
  | true =>
    obtain ⟨f1, f2⟩ := hfin hf
    unfold u_lay at hlay
    rw [if_pos hf] at hlay
    have hcf : m.cls = cf := by
      obtain ⟨_, _, c', _, _, _, -, -, hf', -, -, -, hown2, -⟩ := Cond.laysFinal_spec hlay
      have e1 : c' = cf := by have := hi.symm.trans hf'; simp at this; exact this.1.symm
      rw [hT, f1] at hown2
      rw [← e1]; exact Option.some.inj (hown.symm.trans hown2)
    have h6 := u_fits hfc hkC hkind (Or.inr hlay) hi hd hn hfit
    exact W.putFinK hx hb hown hlink (hsame _ hi) hst hcf f2 (by rw [q2]; exact h6) q1 q3 (by rw [hsl]; exact k2_hasslot (q4 k hk)) rfl rfl hdg fin
theorem g_push_S {H1 : Heap} (hS : va_S (gA z ro) s.heap H locs) (z1 : H1.size = H.size + 1) (o1 : ∀ q : Nat, q < H.size → H1[q]? = H[q]?) : va_S (gA z ro) s.heap H1 locs :=
  ⟨Nat.le_trans hS.1 (by omega), fun x h1 h2 => (o1 x (Nat.lt_of_lt_of_le h1 hS.1)).trans (hS.2.1 x h1 h2), hS.2.2⟩
theorem g_push_P {H1 : Heap} {n : Nat} {w : va_E} (hP : va_P D vwCl (gWorld z ro cA G n) H) (hn : H.size = z + n + 1) (o1 : ∀ q : Nat, q < H.size → H1[q]? = H[q]?) (hq : va_at D vwCl (H.size, w) H1) : va_P D vwCl (gWorld z ro cA G n ++ [(z + (n + 1), w)]) H1 := by
  have hk : ∀ (k : Nat) (x : Nat × va_E), (gWorld z ro cA G n)[k]? = some x → H1[x.1]? = H[x.1]? := fun k x hx => o1 x.1 ((hP k x hx).lt)
  refine (hP.kept hk).app (fun k x hx => ?_)
  have hz : k < 1 := (List.getElem?_eq_some_iff.mp hx).1
  rw [show k = 0 by omega] at hx
  cases hx
  rw [show z + (n + 1) = H.size by omega]
  exact hq
theorem gv_default (z : Nat) (ro : Nat → Nat) (ty : FieldType) : gv z ro (defaultValue ty) = defaultValue ty := by cases ty <;> rfl
/-- a new object -/
theorem g_new (hx : p.tables.exec = Jvm.exec) (hb : c.code = cc) {own C : String} {T : u_T} {N ci index : Nat} {fs : List Value} (hts : ∀ w ∈ gw, w.before args s = true) (hin : ∀ w ∈ u_ws C T N, w ∈ gw) (ty : Nat → FieldType) (hty : ∀ k, k < N → parseFieldDescriptor (T k).2.2.1 = some (ty k)) (hlen : fs.length = N) (hfs : ∀ k, k < N → defaultValue (ty k) = vp_V fs k)
    (hown : s.vm.findClass own = some m.cls) (hcl : (Cond.classLink own index C).before args s = true) (hinst : (Cond.instantiable C N).before args s = true) (hini : (Cond.initialized C).before args s = true)
    (hK : va_K D vwCl (gTys cA) s) (hr : gRep z ro cA D roArr G H) (hS : va_S (gA z ro) s.heap H locs) (h0 : 0 < G.1) (hlt : G.1 < gRB) (hc : vwCl[ci]? = some (C, T, N)) (hcells : cells + 1 ≤ R.cells) (hslots : slots + N ≤ R.slots) (hdg : decode cc pc = .ok (.new index, 3))
    (kk : ∀ H1, gRep z ro cA D roArr (gPush G (.inl (ci, fs))) H1 → va_S (gA z ro) s.heap H1 locs → W p l e R s m args below meth c H1 locs (cells + 1) (slots + N) Q (F0 m (pc + 3) ls (.ref (gAd z ro G.1) :: rest))) :
    W p l e R s m args below meth c H locs cells slots Q (F0 m pc ls rest) := by
  have hKn := hK.1 ci _ hc
  refine W.newcK hx hb hown hcl hinst hini rfl hdg hcells hslots hKn.2.1 rfl fun H1 kC hkC e1 z1 o1 => ?_
  have hfs2 : ∀ j, j < N → defaultValue (ty j) = vp_V (fs.map (gv z ro)) j := by
    intro j hj
    have e := hfs j hj
    have hj2 : fs[j]? = some (defaultValue (ty j)) := by
      rw [e]
      have hjl : j < fs.length := by omega
      simp [vp_V, List.getElem?_eq_getElem hjl]
    show defaultValue (ty j) = (fs.map (gv z ro)).getD j .null
    rw [List.getD_eq_getElem?_getD, List.getElem?_map, hj2]
    exact (gv_default z ro (ty j)).symm
  obtain ⟨r1, r2⟩ := hr.push (c := .inl (ci, fs)) (H1 := H1) h0 hlt z1 (fun n hn hP => g_push_P hP hn o1 ⟨_, hc, (u_born ty hts hin hKn hkC e1 hty).to hfs2⟩) (fun ci' fs' h => by cases h; exact ⟨_, hc, hlen⟩)
  rw [← r2]
  exact kk H1 r1 (g_push_S hS z1 o1)
/-- a new array of numbers -/
theorem g_newa (hx : p.tables.exec = Jvm.exec) (hb : c.code = cc) {atype : ArrayType} (harr : (Cond.arrayClass (newarray.typeOf atype)).before args s = true) {ty : FieldType} (hty : newarray.typeOf atype = ty) {i0 : Nat} (hi : gTy[i0]? = some ty)
    (hK : va_K D vwCl (gTys cA) s) (hr : gRep z ro cA D roArr G H) (hS : va_S (gA z ro) s.heap H locs) (h0 : 0 < G.1) (hlt : G.1 < gRB) {N : Nat} {a0 : vp_A} (ha : ∀ cB : ClassId, vp_cell cB a0 = arrV cB N (fun _ => defaultValue ty)) (hga : gAr z ro a0 = a0) (hN : N ≤ 100000) (hcells : cells + 1 ≤ R.cells) (hslots : slots + N ≤ R.slots) (hdg : decode cc pc = .ok (.newarray atype, 2))
    (kk : ∀ H1, gRep z ro cA D roArr (gPush G (.inr (ty, a0))) H1 → va_S (gA z ro) s.heap H1 locs → W p l e R s m args below meth c H1 locs (cells + 1) (slots + N) Q (F0 m (pc + 2) ls (.ref (gAd z ro G.1) :: rest))) :
    W p l e R s m args below meth c H locs cells slots Q (F0 m pc ls (.int (nI N) :: rest)) := by
  subst hty
  have hN31 : N < 2 ^ 31 := by omega
  have hbytes : N * componentBytes (newarray.typeOf atype) ≤ 536870912 := by
    have : componentBytes (newarray.typeOf atype) ≤ 8 := by cases atype <;> decide
    calc N * componentBytes (newarray.typeOf atype) ≤ 100000 * 8 := Nat.mul_le_mul hN this
      _ ≤ 536870912 := by decide
  refine va_newaK hx hb harr rfl hdg rfl (nI_pos hN31) (nI_clamp hN31) hbytes hcells hslots rfl fun H1 cB e1 z1 o1 hAr hNm => ?_
  have hcB : cB = cA (newarray.typeOf atype) := by
    have h2 := (g_arr hK hi).2
    cases atype <;> exact Option.some.inj (hNm.symm.trans h2)
  subst hcB
  obtain ⟨r1, r2⟩ := hr.push (c := .inr (newarray.typeOf atype, a0)) (H1 := H1) h0 hlt z1 (fun n hn hP => g_push_P hP hn o1 (by
    show H1[H.size]? = some (vp_cell _ _)
    rw [hga, ha]
    exact e1)) g_noobj
  rw [← r2]
  exact kk H1 r1 (g_push_S hS z1 o1)
/-- a new array of State references -/
theorem g_newq (hx : p.tables.exec = Jvm.exec) (hb : c.code = cc) {own : String} {index : Nat} (hown : s.vm.findClass own = some m.cls) (hclink : (Cond.classLink own index "TrunkDuel$State").before args s = true) (hover : va_AO "TrunkDuel$State" s)
    (hK : va_K D vwCl (gTys cA) s) (hr : gRep z ro cA D roArr G H) (hS : va_S (gA z ro) s.heap H locs) (h0 : 0 < G.1) (hlt : G.1 < gRB) {N : Nat} (hN : N ≤ 100000) (hcells : cells + 1 ≤ R.cells) (hslots : slots + N ≤ R.slots) (hdg : decode cc pc = .ok (.anewarray index, 3))
    (kk : ∀ H1, gRep z ro cA D roArr (gPush G (.inr (.object "TrunkDuel$State", N, .inr (.inr (.inr (.inr fun _ => none)))))) H1 → va_S (gA z ro) s.heap H1 locs → W p l e R s m args below meth c H1 locs (cells + 1) (slots + N) Q (F0 m (pc + 3) ls (.ref (gAd z ro G.1) :: rest))) :
    W p l e R s m args below meth c H locs cells slots Q (F0 m pc ls (.int (nI N) :: rest)) := by
  have hN31 : N < 2 ^ 31 := by omega
  refine W.anew hx hb hown hclink (va_AO.use hover) rfl hdg rfl (nI_pos hN31) (by rw [nI_clamp hN31]; omega) hcells (by rw [nI_clamp hN31]; exact hslots) fun cB kA comp f1 f2 f3 f4 => ?_
  rw [nI_clamp hN31]
  generalize hH1 : H.push ({ cls := cB, slots := Array.replicate N .null, vm := .none } : Cell) = H1
  have z1 : H1.size = H.size + 1 := by rw [← hH1, Array.size_push]
  have e1 : H1[H.size]? = some (arrV cB N (fun _ => .null)) := by rw [← hH1, Array.getElem?_push_size, ← arrV_new]
  have o1 : ∀ q : Nat, q < H.size → H1[q]? = H[q]? := fun q hq => by rw [← hH1, Array.getElem?_push, if_neg (Nat.ne_of_lt hq)]
  have hcB : cB = cA (.object "TrunkDuel$State") := by
    obtain ⟨kA', comp', k1, k2, k3, k4⟩ := (g_arr hK (i := 3) rfl).2
    exact Option.some.inj (f1.symm.trans k4)
  subst hcB
  obtain ⟨r1, r2⟩ := hr.push (c := .inr (.object "TrunkDuel$State", N, .inr (.inr (.inr (.inr fun _ => none))))) (H1 := H1) h0 hlt z1 (fun n hn hP => g_push_P hP hn o1 (by
    show H1[H.size]? = some (vp_cell _ (N, .inr (.inr (.inr (.inr _)))))
    rw [vp_cell_q]
    exact e1)) g_noobj
  rw [← r2]
  exact kk H1 r1 (g_push_S hS z1 o1)
theorem g_isArr (hK : va_K D vwCl (gTys cA) s) {ty : FieldType} (h : ty = .int ∨ ty = .boolean) (n : Nat) (f : Nat → Int32) : s.isArrayOf (vp_cell (cA ty) (n, .inl f)) ty := by
  rw [vp_cell_i]
  rcases h with rfl | rfl
  · exact (g_arr hK (i := 0) rfl).1 n _
  · exact (g_arr hK (i := 1) rfl).1 n _
/-- System.arraycopy between two rows of one kind -/
theorem g_copy (hx : p.tables.exec = Jvm.exec) (hb : c.code = cc) (hml : c.maxLocals = ls.size) {own : String} {index : Nat} (hown : s.vm.findClass own = some m.cls) (hlink : (Cond.methodLink own index arraycopyName).before args s = true) (hnat : (Cond.native arraycopyName).before args s = true) (hstat : (Cond.static arraycopyName).before args s = true) (hini : (Cond.initialized "java/lang/System").before args s = true)
    (hK : va_K D vwCl (gTys cA) s) (hr : gRep z ro cA D roArr G H) (hS : va_S (gA z ro) s.heap H locs) {o q : Nat} {ty : FieldType} {m0 m1 : Nat} {f g : Nat → Int32} (ho : o < gRB) (hq : q < gRB) (hG0 : G.2 o = some (.inr (ty, m0, .inl f))) (hG1 : G.2 q = some (.inr (ty, m1, .inl g))) (hty : ty = .int ∨ ty = .boolean ∧ ∀ i, f i = nI 0 ∨ f i = nI 1)
    {ka da sa : Nat} (b1 : ka < 2 ^ 31) (b2 : da < 2 ^ 31) (b3 : sa < 2 ^ 31) (c1 : sa + ka ≤ m0) (c2 : da + ka ≤ m1) (hframes : 1 ≤ R.frames) (hlocals : (rest.map fun v => v.category).sum + (nativeFrameWords "java/lang/System" "arraycopy" 5 + 11) ≤ R.locals) (hdg : decode cc pc = .ok (.invokestatic index, 3))
    (kk : ∀ H1 locs1, gRep z ro cA D roArr (gU G q (.inr (ty, m1, .inl (va_cpy f g sa da ka)))) H1 → va_S (gA z ro) s.heap H1 locs1 → W p l e R s m args below meth c H1 locs1 cells slots Q (F0 m (pc + 3) ls rest)) :
    W p l e R s m args below meth c H locs cells slots Q (F0 m pc ls (.int (nI ka) :: .int (nI da) :: .ref (gAd z ro q) :: .int (nI sa) :: .ref (gAd z ro o) :: rest)) := by
  have hty' : ty = .int ∨ ty = .boolean := hty.imp id And.left
  intro T hT X
  obtain ⟨n0, h1, h2, h3, hP0, hw0⟩ := hr.at ho hG0
  obtain ⟨n1, h4, h5, h6, hP1, hw1⟩ := hr.at hq hG1
  have hc0 : H[gAd z ro o]? = some (vp_cell (cA ty) (m0, .inl f)) := hP0 _ _ hw0
  have hc1 : H[gAd z ro q]? = some (vp_cell (cA ty) (m1, .inl g)) := hP1 _ _ hw1
  obtain ⟨-, k0, hk0, cm0, hkk0⟩ := g_isArr hK hty' m0 f
  obtain ⟨-, k1, hk1, cm1, hkk1⟩ := g_isArr hK hty' m1 g
  have hpr : refKind ty = false := by rcases hty' with rfl | rfl <;> rfl
  obtain ⟨vm', X', step⟩ := X.arraycopy hx hown hlink hnat hstat hini (src := gAd z ro o) (dst := gAd z ro q) (cs := vp_cell (cA ty) (m0, .inl f)) (cd := vp_cell (cA ty) (m1, .inl g)) (srcPos := nI sa) (destPos := nI da) (n := nI ka) (by rw [hT]; exact hc0) (by rw [hT]; exact hc1)
    (fun _ h => by cases h) (fun _ h => by cases h) (fun h => by cases h) (fun h => by cases h) hk0 hk1 hkk0 hkk1 (by rcases hty' with rfl | rfl <;> simp [refKind]) (nI_pos b3) (nI_pos b2) (nI_pos b1)
    (by rw [va_nn (nI_pos b3), va_nn (nI_pos b1), nI_clamp b3, nI_clamp b1, vp_size_any]; show ¬ ((sa : Int) + ka > (m0 : Int)); omega)
    (by rw [va_nn (nI_pos b2), va_nn (nI_pos b1), nI_clamp b2, nI_clamp b1, vp_size_any]; show ¬ ((da : Int) + ka > (m1 : Int)); omega)
    (fun vm₁ _ i hi => by
      rw [nI_clamp b1] at hi
      have e : (vp_cell (cA ty) (m0, .inl f)).slots.getD ((nI sa).toNatClampNeg + i) .null = .int (f (sa + i)) := by
        rw [nI_clamp b3]
        show (arrV (cA ty) m0 (fun j => .int (f j))).slots.getD _ _ = _
        rw [Array.getD_eq_getD_getElem?, arrV_read _ _ (by omega)]
        rfl
      refine ⟨?_, ?_⟩
      · rw [e]
        rcases hty with rfl | ⟨rfl, hf⟩
        · rfl
        · rcases hf (sa + i) with q | q <;> rw [q] <;> rfl
      · rw [e]
        exact trivial)
    (g := F0 m pc ls (.int (nI ka) :: .int (nI da) :: .ref (gAd z ro q) :: .int (nI sa) :: .ref (gAd z ro o) :: rest)) rfl (by rw [hml]) (rest := rest) rfl (by rw [hb]; exact hdg) hframes (by show 2 * 0 + _ + _ ≤ _; omega)
  have e1 : copied (vp_cell (cA ty) (m0, .inl f)) (vp_cell (cA ty) (m1, .inl g)) (nI sa) (nI da) (nI ka) = vp_cell (cA ty) (m1, .inl (va_cpy f g sa da ka)) := by
    have := va_copied (fun z => Value.int z) (cA ty) (cA ty) (n0 := m0) (n1 := m1) (sp := sa) (dp := da) (n := ka) f g c1
    unfold copied
    rw [nI_clamp b1, nI_clamp b2, nI_clamp b3]
    exact this
  rw [e1] at X' step
  have hl : gAd z ro q < H.size := (Array.getElem?_eq_some_iff.mp hc1).1
  have hheap : ((T.setVm vm').setCell (gAd z ro q) (vp_cell (cA ty) (m1, .inl (va_cpy f g sa da ka)))).heap = H.setIfInBounds (gAd z ro q) (vp_cell (cA ty) (m1, .inl (va_cpy f g sa da ka))) := by rw [← hT]; rfl
  have oq : ∀ x : Nat, x ≠ gAd z ro q → (H.setIfInBounds (gAd z ro q) (vp_cell (cA ty) (m1, .inl (va_cpy f g sa da ka))))[x]? = H[x]? := fun x hq => by simp [Array.getElem?_setIfInBounds, Ne.symm hq]
  obtain ⟨t, a1, b1⟩ := kk _ _ (hr.store hq hG1 (by simp) (fun n a b hP => hP.set (gWorld_D a) (gWorld_at2 hq hG1 b) (show (H.setIfInBounds (gAd z ro q) _)[gAd z ro q]? = some _ by simp [Array.getElem?_setIfInBounds, hl]; rfl) oq) g_noobj) ⟨by simp; exact hS.1, fun x g1 g2 => by
      rw [oq x (fun e => g2 (by rw [e]; exact g_gA hq h4 h5))]
      exact hS.2.1 x g1 g2, fun x hx => by
      rcases List.mem_append.mp hx with h | h
      · exact hS.2.2 x h
      · obtain ⟨y, -, hy⟩ := List.mem_map.mp h
        rw [← hy]
        exact g_gA hq h4 h5⟩ _ hheap X'
  exact ⟨t, step t a1, b1⟩
end GRows2
end
section
/-! ===== the ghost machine is sound: what a step's formula says, the machine does ===== -/
def gZ (z : Nat) (ro : Nat → Nat) (cA : FieldType → ClassId) (D : va_G) (roArr : Nat → Option (Nat × (Nat → Int32))) (Q : GQ) (R : Room) (s : State) (args : Array Value) (below : List Frame) : State → Prop := vx_MQ below (gQc z ro cA D roArr Q) (gXC z ro cA D roArr Q) args s R.cells R.slots (gA z ro)
def SND (z : Nat) (ro : Nat → Nat) (cA : FieldType → ClassId) (D : va_G) (roArr : Nat → Option (Nat × (Nat → Int32))) : GW := fun m rc rs pc ls st G Q =>
  ∀ (p : Program) (l : Launch) (e : Env) (R : Room) (s : State) (mid : MethodId) (args : Array Value) (below : List Frame) (meth : Method) (c : Code) (H : Heap) (locs : List Loc) (cells slots : Nat) (lsr : Array Slot),
    gCtx z ro cA D roArr m p l R s mid args meth c → gRep z ro cA D roArr G H → gLoc z ro lsr (gMaxL m) ls → va_S (gA z ro) s.heap H locs → cells + rc ≤ R.cells → slots + rs ≤ R.slots →
    W p l e R s mid args below meth c H locs cells slots (gZ z ro cA D roArr Q R s args below) (F0 mid pc lsr (st.map (gv z ro)))
theorem gChk_dec {m pc : Nat} {i : Instr} {n a b c d e : Nat} (h : gChk m pc (i, n, a, b, c, d, e) = true) : decode (gCode m) pc = .ok (i, gLenE i e) ∧ n = pc + gLenE i e := by
  simp only [gChk, Bool.and_eq_true, decide_eq_true_eq, beq_iff_eq] at h
  exact h.1
theorem gLdI_el {ls : GL} {k : Nat} {K : Int32 → Prop} (h : gLdI ls k K) : ∃ x, ls[k]? = some (some (.int x)) ∧ K x := by
  unfold gLdI at h
  split at h
  · exact ⟨_, by assumption, h⟩
  · exact h.elim
theorem gLdA_el {ls : GL} {k : Nat} {K : Nat → Prop} (h : gLdA ls k K) : ∃ x, ls[k]? = some (some (.ref x)) ∧ K x := by
  unfold gLdA at h
  split at h
  · exact ⟨_, by assumption, h⟩
  · exact h.elim
theorem gLdD_el {ls : GL} {k : Nat} {K : UInt64 → Prop} (h : gLdD ls k K) : ∃ x, ls[k]? = some (some (.double x)) ∧ K x := by
  unfold gLdD at h
  split at h
  · exact ⟨_, by assumption, h⟩
  · exact h.elim
section Snd
variable {z : Nat} {ro : Nat → Nat} {cA : FieldType → ClassId} {D : va_G} {roArr : Nat → Option (Nat × (Nat → Int32))}
variable {m rc rs pc : Nat} {ls : GL} {st : List Value} {G : GH} {Q : GQ}
/-- the heap and the locals stay -/
theorem snd_lin {n : Nat} {st' : List Value} (h : SND z ro cA D roArr m rc rs n ls st' G Q)
    (row : ∀ {p : Program} {l : Launch} {e : Env} {R : Room} {s : State} {mid : MethodId} {args : Array Value} {below : List Frame} {meth : Method} {c : Code} {H : Heap} {locs : List Loc} {cells slots : Nat} {lsr : Array Slot} {Z : State → Prop}, gCtx z ro cA D roArr m p l R s mid args meth c → gLoc z ro lsr (gMaxL m) ls →
      W p l e R s mid args below meth c H locs cells slots Z (F0 mid n lsr (st'.map (gv z ro))) → W p l e R s mid args below meth c H locs cells slots Z (F0 mid pc lsr (st.map (gv z ro)))) : SND z ro cA D roArr m rc rs pc ls st G Q :=
  fun _ _ _ _ _ _ _ _ _ _ _ _ _ _ _ hC hr hl hS hc hs => row hC hl (h _ _ _ _ _ _ _ _ _ _ _ _ _ _ _ hC hr hl hS hc hs)
theorem snd_ld {k n : Nat} {v : Value} (hv : ls[k]? = some (some v)) (h : SND z ro cA D roArr m rc rs n ls (v :: st) G Q)
    (row : ∀ {p : Program} {l : Launch} {e : Env} {R : Room} {s : State} {mid : MethodId} {args : Array Value} {below : List Frame} {meth : Method} {c : Code} {H : Heap} {locs : List Loc} {cells slots : Nat} {lsr : Array Slot} {Z : State → Prop}, gCtx z ro cA D roArr m p l R s mid args meth c → lsr[k]? = some (.val (gv z ro v)) →
      W p l e R s mid args below meth c H locs cells slots Z (F0 mid n lsr (gv z ro v :: st.map (gv z ro))) → W p l e R s mid args below meth c H locs cells slots Z (F0 mid pc lsr (st.map (gv z ro)))) : SND z ro cA D roArr m rc rs pc ls st G Q :=
  snd_lin h fun hC hl k => row hC (hl.at hv) k
theorem snd_st {n : Nat} {r : List Value} {ls' : GL} (h : SND z ro cA D roArr m rc rs n ls' r G Q)
    (row : ∀ {p : Program} {l : Launch} {e : Env} {R : Room} {s : State} {mid : MethodId} {args : Array Value} {below : List Frame} {meth : Method} {c : Code} {H : Heap} {locs : List Loc} {cells slots : Nat} {lsr : Array Slot} {Z : State → Prop}, gCtx z ro cA D roArr m p l R s mid args meth c → gLoc z ro lsr (gMaxL m) ls →
      (∀ lsr' : Array Slot, gLoc z ro lsr' (gMaxL m) ls' → W p l e R s mid args below meth c H locs cells slots Z (F0 mid n lsr' (r.map (gv z ro)))) → W p l e R s mid args below meth c H locs cells slots Z (F0 mid pc lsr (st.map (gv z ro)))) : SND z ro cA D roArr m rc rs pc ls st G Q :=
  fun _ _ _ _ _ _ _ _ _ _ _ _ _ _ _ hC hr hl hS hc hs => row hC hl (fun _ hl' => h _ _ _ _ _ _ _ _ _ _ _ _ _ _ _ hC hr hl' hS hc hs)
/-- what an entry of the tables is known by -/
def gEnt (m pc : Nat) (E : GE) : Prop := gChk m pc E = true ∧ gLnk m E
theorem snd_iinc {k n a b c d e : Nat} {v : Int} (hE : gEnt m pc (.iinc k v, n, a, b, c, d, e)) (h : gLdI ls k (fun x => SND z ro cA D roArr m rc rs n (gSt1 ls k (.int (gInc x b a))) st G Q)) : SND z ro cA D roArr m rc rs pc ls st G Q := by
  obtain ⟨hd, hn⟩ := gChk_dec hE.1
  have hk := hE.1
  simp only [gChk, Bool.and_eq_true, decide_eq_true_eq, beq_iff_eq] at hk
  obtain ⟨-, hk1, hk2⟩ := hk
  subst hn
  obtain ⟨x, hx, h⟩ := gLdI_el h
  refine snd_st h fun hC hl kk => ?_
  obtain ⟨j, hj⟩ := List.mem_iff_getElem?.mp (gAs_mem.mpr ⟨_, hx, rfl⟩ : (k, gv z ro (.int x)) ∈ gAs z ro ls)
  refine lv_iinc (v := gInc x b a) hC.1 hC.2.1 hd hl hj ?_ hk1 rfl fun lsr' hl' => kk lsr' (gLoc.st1 (x := .int (gInc x b a)) hl')
  rw [hk2]
  unfold gK gInc
  cases b with
  | zero => rfl
  | succ b => exact (Int32.sub_eq_add_neg _ _).symm
theorem snd_arith {i : Instr} {n a b c d e : Nat} {x y : Int32} {r : List Value} (hi : i = .iadd ∨ i = .isub ∨ i = .imul ∨ i = .iand ∨ i = .ior ∨ i = .ishl ∨ i = .ishr ∨ i = .iushr ∨ i = .idiv ∨ i = .irem) (hE : gEnt m pc (i, n, a, b, c, d, e)) (hst : st = .int y :: .int x :: r)
    (h : gArith i x y (fun v => SND z ro cA D roArr m rc rs n ls (.int v :: r) G Q)) : SND z ro cA D roArr m rc rs pc ls st G Q := by
  obtain ⟨hd, hn⟩ := gChk_dec hE.1
  subst hn
  subst hst
  rcases hi with rfl | rfl | rfl | rfl | rfl | rfl | rfl | rfl | rfl | rfl
  · exact snd_lin h fun hC _ k => lv_iadd hC.1 hC.2.1 hd k
  · exact snd_lin h fun hC _ k => lv_isub hC.1 hC.2.1 hd k
  · exact snd_lin h fun hC _ k => lv_imul hC.1 hC.2.1 hd k
  · exact snd_lin h fun hC _ k => lv_iand hC.1 hC.2.1 hd k
  · exact snd_lin h fun hC _ k => lv_ior hC.1 hC.2.1 hd k
  · exact snd_lin h fun hC _ k => lv_ishl hC.1 hC.2.1 hd k
  · exact snd_lin h fun hC _ k => lv_ishr hC.1 hC.2.1 hd k
  · exact snd_lin h fun hC _ k => lv_iushr hC.1 hC.2.1 hd rfl k
  · exact snd_lin h.2 fun hC _ k => lv_idiv hC.1 hC.2.1 hd h.1 k
  · exact snd_lin h.2 fun hC _ k => lv_irem hC.1 hC.2.1 hd h.1 k
theorem snd_two {A B : Prop} {t n : Nat} {r : List Value} (h1 : A → SND z ro cA D roArr m rc rs t ls r G Q) (h2 : B → SND z ro cA D roArr m rc rs n ls r G Q)
    (row : ∀ {p : Program} {l : Launch} {e : Env} {R : Room} {s : State} {mid : MethodId} {args : Array Value} {below : List Frame} {meth : Method} {c : Code} {H : Heap} {locs : List Loc} {cells slots : Nat} {lsr : Array Slot} {Z : State → Prop}, gCtx z ro cA D roArr m p l R s mid args meth c →
      (A → W p l e R s mid args below meth c H locs cells slots Z (F0 mid t lsr (r.map (gv z ro)))) → (B → W p l e R s mid args below meth c H locs cells slots Z (F0 mid n lsr (r.map (gv z ro)))) → W p l e R s mid args below meth c H locs cells slots Z (F0 mid pc lsr (st.map (gv z ro)))) : SND z ro cA D roArr m rc rs pc ls st G Q :=
  fun _ _ _ _ _ _ _ _ _ _ _ _ _ _ _ hC hr hl hS hc hs => row hC (fun q => h1 q _ _ _ _ _ _ _ _ _ _ _ _ _ _ _ hC hr hl hS hc hs) (fun q => h2 q _ _ _ _ _ _ _ _ _ _ _ _ _ _ _ hC hr hl hS hc hs)
theorem gIte_t {c A B : Prop} [Decidable c] (h : if c then A else B) (q : c) : A := by rw [if_pos q] at h; exact h
theorem gIte_f {c A B : Prop} [Decidable c] (h : if c then A else B) (q : ¬ c) : B := by rw [if_neg q] at h; exact h
theorem i32_nlt {x y : Int32} (h : y ≤ x) : ¬ x < y := Int32.not_lt.mpr h
theorem i32_lt {x y : Int32} (h : ¬ y ≤ x) : x < y := Int32.not_le.mp h
theorem snd_if {cd : Jvm.ClassFile.Cond} {o : Int} {n a b c d e : Nat} {x : Int32} {r : List Value} (hE : gEnt m pc (.ifCond cd o, n, a, b, c, d, e)) (hst : st = .int x :: r) (h : gCond cd x (nI 0) (SND z ro cA D roArr m rc rs a ls r G Q) (SND z ro cA D roArr m rc rs n ls r G Q)) : SND z ro cA D roArr m rc rs pc ls st G Q := by
  obtain ⟨hd, hn⟩ := gChk_dec hE.1
  have hk := hE.1
  simp only [gChk, Bool.and_eq_true, decide_eq_true_eq, beq_iff_eq] at hk
  have ht := hk.2
  subst hn
  subst hst
  rw [nI_0] at h
  cases cd
  · exact snd_two (gIte_t h) (gIte_f h) fun hC k1 k2 => lv_if_eq hC.1 hC.2.1 hd ht k1 k2
  · exact snd_two (gIte_f h) (gIte_t h) fun hC k1 k2 => lv_if_ne hC.1 hC.2.1 hd ht k1 k2
  · exact snd_two (gIte_t h) (gIte_f h) fun hC k1 k2 => lv_if_lt hC.1 hC.2.1 hd ht k1 k2
  · exact snd_two (gIte_f h) (gIte_t h) fun hC k1 k2 => lv_if_ge hC.1 hC.2.1 hd ht (fun q => k1 (i32_nlt q)) (fun q => k2 (i32_lt q))
  · exact snd_two (gIte_t h) (gIte_f h) fun hC k1 k2 => lv_if_gt hC.1 hC.2.1 hd ht k1 k2
  · exact snd_two (gIte_f h) (gIte_t h) fun hC k1 k2 => lv_if_le hC.1 hC.2.1 hd ht (fun q => k1 (i32_nlt q)) (fun q => k2 (i32_lt q))
theorem snd_icmp {cd : Jvm.ClassFile.Cond} {o : Int} {n a b c d e : Nat} {x y : Int32} {r : List Value} (hE : gEnt m pc (.if_icmp cd o, n, a, b, c, d, e)) (hst : st = .int y :: .int x :: r) (h : gCond cd x y (SND z ro cA D roArr m rc rs a ls r G Q) (SND z ro cA D roArr m rc rs n ls r G Q)) : SND z ro cA D roArr m rc rs pc ls st G Q := by
  obtain ⟨hd, hn⟩ := gChk_dec hE.1
  have hk := hE.1
  simp only [gChk, Bool.and_eq_true, decide_eq_true_eq, beq_iff_eq] at hk
  have ht := hk.2
  subst hn
  subst hst
  cases cd
  · exact snd_two (gIte_t h) (gIte_f h) fun hC k1 k2 => lv_icmp_eq hC.1 hC.2.1 hd ht k1 k2
  · exact snd_two (gIte_f h) (gIte_t h) fun hC k1 k2 => lv_icmp_ne hC.1 hC.2.1 hd ht k1 k2
  · exact snd_two (gIte_t h) (gIte_f h) fun hC k1 k2 => lv_icmp_lt hC.1 hC.2.1 hd ht k1 k2
  · exact snd_two (gIte_f h) (gIte_t h) fun hC k1 k2 => lv_icmp_ge hC.1 hC.2.1 hd ht (fun q => k1 (i32_nlt q)) (fun q => k2 (i32_lt q))
  · exact snd_two (gIte_t h) (gIte_f h) fun hC k1 k2 => lv_icmp_gt hC.1 hC.2.1 hd ht k1 k2
  · exact snd_two (gIte_f h) (gIte_t h) fun hC k1 k2 => lv_icmp_le hC.1 hC.2.1 hd ht (fun q => k1 (i32_nlt q)) (fun q => k2 (i32_lt q))
theorem gSw_el {X : Nat → Prop} {pc : Nat} {x : Int32} : ∀ (os : List Int) (lo : Int), gSw X pc x lo os → ∀ (k : Nat) (o : Int), os[k]? = some o → x.toInt = lo + k → X ((pc : Int) + o).toNat
  | [], _, _, k, o, ho, _ => by simp at ho
  | o' :: os, lo, h, 0, o, ho, hx => by
    cases ho
    exact h.1 (by omega)
  | o' :: os, lo, h, k + 1, o, ho, hx => gSw_el os (lo + 1) h.2 k o (by simpa using ho) (by omega)
theorem snd_switch {df lo hi : Int} {os : Array Int} {n a b c d e : Nat} {x : Int32} {r : List Value} (hE : gEnt m pc (.tableswitch df lo hi os, n, a, b, c, d, e)) (hst : st = .int x :: r)
    (h : ((x.toInt < lo ∨ hi < x.toInt) → SND z ro cA D roArr m rc rs a ls r G Q) ∧ gSw (fun t => SND z ro cA D roArr m rc rs t ls r G Q) pc x lo os.toList) : SND z ro cA D roArr m rc rs pc ls st G Q := by
  obtain ⟨hd, hn⟩ := gChk_dec hE.1
  have hk := hE.1
  simp only [gChk, Bool.and_eq_true, decide_eq_true_eq, beq_iff_eq, List.all_eq_true] at hk
  obtain ⟨-, ⟨hk1, hk2⟩, hk3⟩ := hk
  subst hst
  by_cases hx : x.toInt < lo ∨ hi < x.toInt
  · exact snd_lin (h.1 hx) fun hC _ k => lv_tableOut hC.1 hC.2.1 hd hx hk1 k
  · have h1 : ¬ x.toInt < lo := fun q => hx (Or.inl q)
    have h2 : ¬ hi < x.toInt := fun q => hx (Or.inr q)
    have hlt : (x.toInt - lo).toNat < os.size := by omega
    have ho : os[(x.toInt - lo).toNat]? = some os[(x.toInt - lo).toNat] := Array.getElem?_eq_getElem hlt
    have ho2 : os.toList[(x.toInt - lo).toNat]? = some os[(x.toInt - lo).toNat] := by rw [Array.getElem?_toList]; exact ho
    have h3 := gSw_el os.toList lo h.2 _ _ ho2 (by omega)
    have h4 := hk2 _ (List.mem_of_getElem? ho2)
    exact snd_lin h3 fun hC _ k => lv_tableIn hC.1 hC.2.1 hd h1 h2 ho (by omega) k
end Snd
end
section
/-! ===== soundness: fields, arrays, makings, constants, ends ===== -/
section Snd2
variable {z : Nat} {ro : Nat → Nat} {cA : FieldType → ClassId} {D : va_G} {roArr : Nat → Option (Nat × (Nat → Int32))}
variable {m rc rs pc : Nat} {ls : GL} {st : List Value} {G : GH} {Q : GQ}
section Acc
variable {p : Program} {l : Launch} {R : Room} {s : State} {mid : MethodId} {args : Array Value} {meth : Method} {c : Code}
theorem gCtx.ml (h : gCtx z ro cA D roArr m p l R s mid args meth c) : c.maxLocals = gMaxL m := h.2.2.1
theorem gCtx.ret (h : gCtx z ro cA D roArr m p l R s mid args meth c) : meth.sig.returnType = gRet m := h.2.2.2.1
theorem gCtx.own (h : gCtx z ro cA D roArr m p l R s mid args meth c) : s.vm.findClass (gY m).cls = some mid.cls := h.2.2.2.2.1
theorem gCtx.hts (h : gCtx z ro cA D roArr m p l R s mid args meth c) : ∀ w ∈ gw, w.before args s = true := h.2.2.2.2.2.1
theorem gCtx.lk (h : gCtx z ro cA D roArr m p l R s mid args meth c) : meth.locks = false := h.2.2.2.2.2.2.1
theorem gCtx.nm (h : gCtx z ro cA D roArr m p l R s mid args meth c) : meth.name = (gY m).name := h.2.2.2.2.2.2.2.1
theorem gCtx.env (h : gCtx z ro cA D roArr m p l R s mid args meth c) : gEnv z ro cA D roArr s s.heap := h.2.2.2.2.2.2.2.2.1
theorem gCtx.tr (h : gCtx z ro cA D roArr m p l R s mid args meth c) : l.stackTraces = false := h.2.2.2.2.2.2.2.2.2.1
theorem gCtx.tab (h : gCtx z ro cA D roArr m p l R s mid args meth c) : c.exceptionTable.toList = tableOf (gHT m) := h.2.2.2.2.2.2.2.2.2.2.1
theorem gCtx.fr (h : gCtx z ro cA D roArr m p l R s mid args meth c) : gFrames m ≤ R.frames := h.2.2.2.2.2.2.2.2.2.2.2.1
theorem gCtx.lo (h : gCtx z ro cA D roArr m p l R s mid args meth c) : gLocs m ≤ R.locals := h.2.2.2.2.2.2.2.2.2.2.2.2
theorem gCtx.K (h : gCtx z ro cA D roArr m p l R s mid args meth c) : va_K D vwCl (gTys cA) s := h.env.1
end Acc
theorem gRep.lt {H : Heap} {o : Nat} {q : Nat × List Value} (h : gRep z ro cA D roArr G H) (hG : G.2 o = some (.inl q)) : o < gRB := by
  refine Nat.lt_of_not_le fun k => ?_
  obtain ⟨_, _, _, _, _, h4, _⟩ := h
  have e := h4 o k
  rw [hG] at e
  cases hq : roArr o with
  | none => rw [hq] at e; cases e
  | some q' => rw [hq] at e; cases e
theorem gAd_ro {k : Nat} (h : gRB ≤ k) : gAd z ro k = ro k := if_neg (Nat.not_lt.mpr h)
theorem snd_getfield (hF : gFacts) {idx n a b c d e o : Nat} {r : List Value} (hE : gEnt m pc (.getfield idx, n, a, b, c, d, e)) (hst : st = .ref o :: r) {fs : List Value} {v : Value} (hG : G.2 o = some (.inl (a, fs))) (hv : fs[b]? = some v) (h : SND z ro cA D roArr m rc rs n ls (v :: r) G Q) : SND z ro cA D roArr m rc rs pc ls st G Q := by
  obtain ⟨hd, hn⟩ := gChk_dec hE.1
  subst hn
  subst hst
  obtain ⟨C, T, N, e1, e2, e3, e4⟩ := hE.2
  obtain ⟨hin, -, -⟩ := hF.2.2.1 a C T N e1
  intro p l e R s mid args below meth c H locs cells slots lsr hC hr hl hS hc hs
  obtain ⟨n', h1, h2, h3, hP, hw⟩ := hr.at (hr.lt hG) hG
  exact va_get hC.1 hC.2.1 hC.hts hin hC.own hC.K hP _ hw e1 b e2 (hC.hts _ e4) (fun x hx => by rw [e3] at hx; exact hx) (v := gv z ro v) (by rw [List.getElem?_map, hv]; rfl) hd (h _ _ _ _ _ _ _ _ _ _ _ _ _ _ _ hC hr hl hS hc hs)
theorem gFit_narrow {c : Nat} {v : Value} {ty : FieldType} (hf : gFit c v) (hty : (c = 0 ∧ ty = .int) ∨ (c = 1 ∧ gIsRef (some ty) = true) ∨ (c = 2 ∧ ty = .boolean)) : narrow ty (gv z ro v) = gv z ro v ∧ fits ty (gv z ro v) = true := by
  rcases hty with ⟨rfl, rfl⟩ | ⟨rfl, h⟩ | ⟨rfl, rfl⟩
  · cases v <;> first | exact ⟨rfl, rfl⟩ | exact hf.elim
  · cases v <;> first | exact hf.elim | skip
    cases ty <;> first | exact ⟨rfl, rfl⟩ | cases h
  · cases v <;> first | exact hf.elim | skip
    rcases hf with rfl | rfl <;> exact ⟨rfl, rfl⟩
theorem snd_putfield (hF : gFacts) {idx n a b c d e o : Nat} {v : Value} {r : List Value} (hE : gEnt m pc (.putfield idx, n, a, b, c, d, e)) (hst : st = v :: .ref o :: r) (ho : o < gRB) {fs : List Value} (hG : G.2 o = some (.inl (a, fs))) (hf : gFit c v) (h : SND z ro cA D roArr m rc rs n ls r (gU G o (.inl (a, fs.set b v))) Q) : SND z ro cA D roArr m rc rs pc ls st G Q := by
  obtain ⟨hd, hn⟩ := gChk_dec hE.1
  subst hn
  subst hst
  obtain ⟨C, T, N, ty, e1, e2, e3, e4, e5, e6, e7⟩ := hE.2
  obtain ⟨hin, ⟨ty0, hty0, -, -⟩, hnm⟩ := hF.2.2.1 a C T N e1
  obtain ⟨n1, n2⟩ := gFit_narrow (z := z) (ro := ro) hf e6
  intro p l e R s mid args below meth c H locs cells slots lsr hC hr hl hS hc hs
  exact g_put hC.1 hC.2.1 hC.hts hin ty0 hty0 hnm hC.own hC.K hr hS ho hG e1 e2 e3 (hC.hts _ e4) (fun q => ⟨(e7 q).1, hC.nm.trans (e7 q).2⟩) e5 n1 n2 hd (fun H1 locs1 hr1 hS1 => h _ _ _ _ _ _ _ _ _ _ _ _ _ _ _ hC hr1 hl hS1 hc hs)
theorem snd_getstatic {idx n a b c d e : Nat} (hE : gEnt m pc (.getstatic idx, n, a, b, c, d, e)) (h : SND z ro cA D roArr m rc rs n ls (.ref a :: st) G Q) : SND z ro cA D roArr m rc rs pc ls st G Q := by
  obtain ⟨hd, hn⟩ := gChk_dec hE.1
  subst hn
  obtain ⟨j, q, e1, e2, e3⟩ := hE.2
  subst e2
  intro p l e R s mid args below meth c H locs cells slots lsr hC hr hl hS hc hs
  have hk := h _ _ e _ _ _ _ below _ _ _ _ _ _ _ hC hr hl hS hc hs
  rw [List.map_cons, show gv z ro (.ref (gRB + j)) = .ref (ro (gRB + j)) from congrArg Value.ref (gAd_ro (Nat.le_add_right _ _))] at hk
  exact va_gets hC.1 hC.2.1 (hC.env.2.2.2.2.2.1 j q e1) hS hC.own (hC.hts _ e3) (fun _ h => h) hd hk
theorem snd_iaload {n a b c d e o : Nat} {j : Int32} {r : List Value} (hE : gEnt m pc (.iaload, n, a, b, c, d, e)) (hst : st = .int j :: .ref o :: r) {k : Nat} {f : Nat → Int32} (hG : G.2 o = some (.inr (.int, k, .inl f))) (hin : vp_in j k) (h : SND z ro cA D roArr m rc rs n ls (.int (f j.toNatClampNeg) :: r) G Q) : SND z ro cA D roArr m rc rs pc ls st G Q := by
  obtain ⟨hd, hn⟩ := gChk_dec hE.1
  subst hn
  subst hst
  intro p l e R s mid args below meth c H locs cells slots lsr hC hr hl hS hc hs
  have hk := h _ _ e _ _ _ _ below _ _ _ _ _ _ _ hC hr hl hS hc hs
  by_cases ho : o < gRB
  · obtain ⟨n', h1, h2, h3, hP, hw⟩ := hr.at ho hG
    exact va_iald hC.1 hC.2.1 hC.K hP _ 0 hw rfl hin hd hk
  · have ho' := Nat.le_of_not_lt ho
    obtain ⟨_, _, _, _, _, h4, _⟩ := hr
    have e1 := h4 o ho'
    rw [hG] at e1
    cases hq : roArr o with
    | none => rw [hq] at e1; cases e1
    | some q' =>
      rw [hq] at e1
      have hne : o ≠ gDY := fun q => by subst q; cases e1
      have e1 : some (Sum.inr (FieldType.int, k, Sum.inl f)) = some (Sum.inr (gRt o, q'.1, Sum.inl q'.2) : GC) := e1
      rw [gRt, if_neg hne] at e1
      cases e1
      have hT := (hC.env.2.2.2.2.1 o _ ho' hq).1 hne
      show W p l e R s mid args below meth c H locs cells slots _ (F0 mid pc lsr (.int j :: .ref (gAd z ro o) :: r.map (gv z ro)))
      rw [gAd_ro ho']
      exact va_ti hC.1 hC.2.1 hT hS hin rfl hd hk
theorem snd_alen {n a b c d e o : Nat} {r : List Value} (hE : gEnt m pc (.arraylength, n, a, b, c, d, e)) (hst : st = .ref o :: r) {k : Nat} {f : Nat → Int32} (hG : G.2 o = some (.inr (.int, k, .inl f))) (h : SND z ro cA D roArr m rc rs n ls (.int (nI k) :: r) G Q) : SND z ro cA D roArr m rc rs pc ls st G Q := by
  obtain ⟨hd, hn⟩ := gChk_dec hE.1
  subst hn
  subst hst
  intro p l e R s mid args below meth c H locs cells slots lsr hC hr hl hS hc hs
  have hk := h _ _ e _ _ _ _ below _ _ _ _ _ _ _ hC hr hl hS hc hs
  by_cases ho : o < gRB
  · obtain ⟨n', h1, h2, h3, hP, hw⟩ := hr.at ho hG
    exact va_alen hC.1 hC.2.1 hC.K hP _ 0 hw rfl rfl hd hk
  · have ho' := Nat.le_of_not_lt ho
    obtain ⟨_, _, _, _, _, h4, _⟩ := hr
    have e1 := h4 o ho'
    rw [hG] at e1
    cases hq : roArr o with
    | none => rw [hq] at e1; cases e1
    | some q' =>
      rw [hq] at e1
      have hne : o ≠ gDY := fun q => by subst q; cases e1
      have e1 : some (Sum.inr (FieldType.int, k, Sum.inl f)) = some (Sum.inr (gRt o, q'.1, Sum.inl q'.2) : GC) := e1
      rw [gRt, if_neg hne] at e1
      cases e1
      have hT := (hC.env.2.2.2.2.1 o _ ho' hq).1 hne
      show W p l e R s mid args below meth c H locs cells slots _ (F0 mid pc lsr (.ref (gAd z ro o) :: r.map (gv z ro)))
      rw [gAd_ro ho']
      exact va_tlen hC.1 hC.2.1 hT hS rfl hd hk
theorem snd_baload {n a b c d e o : Nat} {j : Int32} {r : List Value} (hE : gEnt m pc (.baload, n, a, b, c, d, e)) (hst : st = .int j :: .ref o :: r) (ho : o < gRB) {k : Nat} {f : Nat → Int32} (hG : G.2 o = some (.inr (.boolean, k, .inl f))) (hin : vp_in j k) (h : SND z ro cA D roArr m rc rs n ls (.int (f j.toNatClampNeg) :: r) G Q) : SND z ro cA D roArr m rc rs pc ls st G Q := by
  obtain ⟨hd, hn⟩ := gChk_dec hE.1
  subst hn
  subst hst
  intro p l e R s mid args below meth c H locs cells slots lsr hC hr hl hS hc hs
  obtain ⟨n', h1, h2, h3, hP, hw⟩ := hr.at ho hG
  exact va_zald hC.1 hC.2.1 hC.K hP _ 1 hw rfl hin hd (h _ _ _ _ _ _ _ _ _ _ _ _ _ _ _ hC hr hl hS hc hs)
theorem snd_laload {n a b c d e o : Nat} {j : Int32} {r : List Value} (hE : gEnt m pc (.laload, n, a, b, c, d, e)) (hst : st = .int j :: .ref o :: r) (ho : o < gRB) {k : Nat} {f : Nat → Int64} (hG : G.2 o = some (.inr (.long, k, .inr (.inl f)))) (hin : vp_in j k) (h : SND z ro cA D roArr m rc rs n ls (.long (f j.toNatClampNeg) :: r) G Q) : SND z ro cA D roArr m rc rs pc ls st G Q := by
  obtain ⟨hd, hn⟩ := gChk_dec hE.1
  subst hn
  subst hst
  intro p l e R s mid args below meth c H locs cells slots lsr hC hr hl hS hc hs
  obtain ⟨n', h1, h2, h3, hP, hw⟩ := hr.at ho hG
  exact va_lald hC.1 hC.2.1 hC.K hP _ 2 hw rfl hin hd (h _ _ _ _ _ _ _ _ _ _ _ _ _ _ _ hC hr hl hS hc hs)
theorem snd_aaload {n a b c d e o : Nat} {j : Int32} {r : List Value} (hE : gEnt m pc (.aaload, n, a, b, c, d, e)) (hst : st = .int j :: .ref o :: r) (ho : o < gRB) {k y : Nat} {f : Nat → Option Nat} (hG : G.2 o = some (.inr (.object "TrunkDuel$State", k, .inr (.inr (.inr (.inr f)))))) (hin : vp_in j k) (hy : f j.toNatClampNeg = some y) (h : SND z ro cA D roArr m rc rs n ls (.ref y :: r) G Q) : SND z ro cA D roArr m rc rs pc ls st G Q := by
  obtain ⟨hd, hn⟩ := gChk_dec hE.1
  subst hn
  subst hst
  intro p l e R s mid args below meth c H locs cells slots lsr hC hr hl hS hc hs
  obtain ⟨n', h1, h2, h3, hP, hw⟩ := hr.at ho hG
  refine va_aldq hC.1 hC.2.1 hC.K hP _ 3 hw rfl hin hd ?_
  rw [hy]
  exact h _ _ _ _ _ _ _ _ _ _ _ _ _ _ _ hC hr hl hS hc hs
theorem snd_iastore {n a b c d e o : Nat} {j x : Int32} {r : List Value} (hE : gEnt m pc (.iastore, n, a, b, c, d, e)) (hst : st = .int x :: .int j :: .ref o :: r) (ho : o < gRB) {k : Nat} {f : Nat → Int32} (hG : G.2 o = some (.inr (.int, k, .inl f))) (hin : vp_in j k) (h : SND z ro cA D roArr m rc rs n ls r (gU G o (.inr (.int, k, .inl (upd f j.toNatClampNeg x)))) Q) : SND z ro cA D roArr m rc rs pc ls st G Q := by
  obtain ⟨hd, hn⟩ := gChk_dec hE.1
  subst hn
  subst hst
  intro p l e R s mid args below meth c H locs cells slots lsr hC hr hl hS hc hs
  exact g_iast hC.1 hC.2.1 hC.K hr hS ho hG hin hd fun H1 locs1 hr1 hS1 => h _ _ _ _ _ _ _ _ _ _ _ _ _ _ _ hC hr1 hl hS1 hc hs
theorem snd_bastore {n a b c d e o : Nat} {j x : Int32} {r : List Value} (hE : gEnt m pc (.bastore, n, a, b, c, d, e)) (hst : st = .int x :: .int j :: .ref o :: r) (ho : o < gRB) (hx : x = nI 0 ∨ x = nI 1) {k : Nat} {f : Nat → Int32} (hG : G.2 o = some (.inr (.boolean, k, .inl f))) (hin : vp_in j k) (h : SND z ro cA D roArr m rc rs n ls r (gU G o (.inr (.boolean, k, .inl (upd f j.toNatClampNeg x)))) Q) : SND z ro cA D roArr m rc rs pc ls st G Q := by
  obtain ⟨hd, hn⟩ := gChk_dec hE.1
  subst hn
  subst hst
  intro p l e R s mid args below meth c H locs cells slots lsr hC hr hl hS hc hs
  exact g_zast hC.1 hC.2.1 hC.K hr hS ho hG hin hx hd fun H1 locs1 hr1 hS1 => h _ _ _ _ _ _ _ _ _ _ _ _ _ _ _ hC hr1 hl hS1 hc hs
theorem snd_lastore {n a b c d e o : Nat} {j : Int32} {x : Int64} {r : List Value} (hE : gEnt m pc (.lastore, n, a, b, c, d, e)) (hst : st = .long x :: .int j :: .ref o :: r) (ho : o < gRB) {k : Nat} {f : Nat → Int64} (hG : G.2 o = some (.inr (.long, k, .inr (.inl f)))) (hin : vp_in j k) (h : SND z ro cA D roArr m rc rs n ls r (gU G o (.inr (.long, k, .inr (.inl (vp_updL f j.toNatClampNeg x))))) Q) : SND z ro cA D roArr m rc rs pc ls st G Q := by
  obtain ⟨hd, hn⟩ := gChk_dec hE.1
  subst hn
  subst hst
  intro p l e R s mid args below meth c H locs cells slots lsr hC hr hl hS hc hs
  exact g_last hC.1 hC.2.1 hC.K hr hS ho hG hin hd fun H1 locs1 hr1 hS1 => h _ _ _ _ _ _ _ _ _ _ _ _ _ _ _ hC hr1 hl hS1 hc hs
theorem snd_aastore {n a b c d e o y : Nat} {j : Int32} {r : List Value} (hE : gEnt m pc (.aastore, n, a, b, c, d, e)) (hst : st = .ref y :: .int j :: .ref o :: r) (ho : o < gRB) (hy : y < gRB) {k : Nat} {f : Nat → Option Nat} {fs : List Value} (hG : G.2 o = some (.inr (.object "TrunkDuel$State", k, .inr (.inr (.inr (.inr f)))))) (hGy : G.2 y = some (.inl (8, fs))) (hin : vp_in j k) (h : SND z ro cA D roArr m rc rs n ls r (gU G o (.inr (.object "TrunkDuel$State", k, .inr (.inr (.inr (.inr (va_up f j.toNatClampNeg (some y)))))))) Q) : SND z ro cA D roArr m rc rs pc ls st G Q := by
  obtain ⟨hd, hn⟩ := gChk_dec hE.1
  subst hn
  subst hst
  intro p l e R s mid args below meth c H locs cells slots lsr hC hr hl hS hc hs
  exact g_qast hC.1 hC.2.1 hC.K hr hS ho hy hG hGy hin hd fun H1 locs1 hr1 hS1 => h _ _ _ _ _ _ _ _ _ _ _ _ _ _ _ hC hr1 hl hS1 hc hs
theorem snd_newarray {ty : ArrayType} {n a b c d e k : Nat} {r : List Value} (hE : gEnt m pc (.newarray ty, n, a, b, c, d, e)) (hst : st = .int (nI k) :: r) (h1 : 1 ≤ rc) (h2 : 0 < G.1) (h3 : G.1 < gRB) (hk : k ≤ 100000) (hks : k ≤ rs)
    (h : match (generalizing := false) ty with
        | .int => SND z ro cA D roArr m (rc - 1) (rs - k) n ls (.ref G.1 :: r) (gPush G (.inr (.int, k, .inl fun _ => 0))) Q
        | .boolean => SND z ro cA D roArr m (rc - 1) (rs - k) n ls (.ref G.1 :: r) (gPush G (.inr (.boolean, k, .inl fun _ => 0))) Q
        | .long => SND z ro cA D roArr m (rc - 1) (rs - k) n ls (.ref G.1 :: r) (gPush G (.inr (.long, k, .inr (.inl fun _ => 0)))) Q
        | _ => False) : SND z ro cA D roArr m rc rs pc ls st G Q := by
  obtain ⟨hd, hn⟩ := gChk_dec hE.1
  subst hn
  subst hst
  intro p l e R s mid args below meth c H locs cells slots lsr hC hr hl hS hc hs
  have hl2 : Cond.arrayClass (newarray.typeOf ty) ∈ gw := hE.2
  cases ty <;> first | exact h.elim | skip
  · exact g_newa hC.1 hC.2.1 (hC.hts _ hl2) rfl (i0 := 1) rfl hC.K hr hS h2 h3 (N := k) (a0 := (k, .inl fun _ => 0)) (fun cB => vp_cell_i _ _ _) rfl hk (by omega) (by omega) hd fun H1 hr1 hS1 => h _ _ _ _ _ _ _ _ _ _ _ _ _ _ _ hC hr1 hl hS1 (by omega) (by omega)
  · exact g_newa hC.1 hC.2.1 (hC.hts _ hl2) rfl (i0 := 0) rfl hC.K hr hS h2 h3 (N := k) (a0 := (k, .inl fun _ => 0)) (fun cB => vp_cell_i _ _ _) rfl hk (by omega) (by omega) hd fun H1 hr1 hS1 => h _ _ _ _ _ _ _ _ _ _ _ _ _ _ _ hC hr1 hl hS1 (by omega) (by omega)
  · exact g_newa hC.1 hC.2.1 (hC.hts _ hl2) rfl (i0 := 2) rfl hC.K hr hS h2 h3 (N := k) (a0 := (k, .inr (.inl fun _ => 0))) (fun cB => vp_cell_l _ _ _) rfl hk (by omega) (by omega) hd fun H1 hr1 hS1 => h _ _ _ _ _ _ _ _ _ _ _ _ _ _ _ hC hr1 hl hS1 (by omega) (by omega)
theorem snd_anewarray {idx n a b c d e k : Nat} {r : List Value} (hE : gEnt m pc (.anewarray idx, n, a, b, c, d, e)) (hst : st = .int (nI k) :: r) (h1 : 1 ≤ rc) (h2 : 0 < G.1) (h3 : G.1 < gRB) (hk : k ≤ 100000) (hks : k ≤ rs)
    (h : SND z ro cA D roArr m (rc - 1) (rs - k) n ls (.ref G.1 :: r) (gPush G (.inr (.object "TrunkDuel$State", k, .inr (.inr (.inr (.inr fun _ => none)))))) Q) : SND z ro cA D roArr m rc rs pc ls st G Q := by
  obtain ⟨hd, hn⟩ := gChk_dec hE.1
  subst hn
  subst hst
  intro p l e R s mid args below meth c H locs cells slots lsr hC hr hl hS hc hs
  have hl2 : Cond.classLink (gY m).cls idx "TrunkDuel$State" ∈ gw := hE.2
  exact g_newq hC.1 hC.2.1 hC.own (hC.hts _ hl2) hC.env.2.1 hC.K hr hS h2 h3 hk (by omega) (by omega) hd fun H1 hr1 hS1 => h _ _ _ _ _ _ _ _ _ _ _ _ _ _ _ hC hr1 hl hS1 (by omega) (by omega)
theorem snd_new (hF : gFacts) {idx n a b c d : Nat} (hE : gEnt m pc (.new idx, n, a, b, c, d, 0)) (h1 : 1 ≤ rc) (h2 : b ≤ rs) (h3 : 0 < G.1) (h4 : G.1 < gRB)
    (h : SND z ro cA D roArr m (rc - 1) (rs - b) n ls (.ref G.1 :: st) (gPush G (.inl (a, gBlk a))) Q) : SND z ro cA D roArr m rc rs pc ls st G Q := by
  obtain ⟨hd, hn⟩ := gChk_dec hE.1
  subst hn
  obtain ⟨C, T, N, e1, e2, e3, e4, e5⟩ := hE.2
  subst e2
  obtain ⟨hin, ⟨ty0, hty0, hlen, hdef⟩, hnm⟩ := hF.2.2.1 a C T b e1
  intro p l e R s mid args below meth c H locs cells slots lsr hC hr hl hS hc hs
  exact g_new hC.1 hC.2.1 hC.hts hin ty0 hty0 hlen hdef hC.own (hC.hts _ e3) (hC.hts _ e4) (hC.hts _ e5) hC.K hr hS h3 h4 e1 (by omega) (by omega) hd fun H1 hr1 hS1 => h _ _ _ _ _ _ _ _ _ _ _ _ _ _ _ hC hr1 hl hS1 (by omega) (by omega)
end Snd2
end
section
/-! ===== soundness: the ends of a method, throws ===== -/
section Snd3
variable {z : Nat} {ro : Nat → Nat} {cA : FieldType → ClassId} {D : va_G} {roArr : Nat → Option (Nat × (Nat → Int32))}
variable {m rc rs pc : Nat} {ls : GL} {st : List Value} {G : GH} {Q : GQ}
theorem va_S.toF {s t : State} {H : Heap} {locs : List Loc} (hS : va_S (gA z ro) s.heap H locs) (ht : t.heap = H) : va_F (gA z ro) s t := ⟨by rw [ht]; exact hS.1, fun q h1 h2 => by rw [ht]; exact hS.2.1 q h1 h2⟩
theorem snd_fin {p : Program} {l : Launch} {e : Env} {R : Room} {s : State} {mid : MethodId} {args : Array Value} {below : List Frame} {meth : Method} {c : Code} {H : Heap} {locs : List Loc} {cells slots : Nat} {g : JFrame} (hc : cells + rc ≤ R.cells) (hs : slots + rs ≤ R.slots)
    (k : W p l e R s mid args below meth c H locs cells slots (MQ below (gQc z ro cA D roArr Q) args s cells slots (gA z ro)) g) : W p l e R s mid args below meth c H locs cells slots (gZ z ro cA D roArr Q R s args below) g := by
  refine vx_ret ?_
  intro T hT X
  obtain ⟨t, a1, o, b1, b2, b3, L, b4, b5⟩ := k T hT X
  exact ⟨t, a1, o, b1, b2, b3, L, ⟨b4.1, b4.2.1, b4.2.2.mono (by omega) (by omega)⟩, b5⟩
theorem snd_ireturn {n a b c d e : Nat} {x : Int32} (hE : gEnt m pc (.ireturn, n, a, b, c, d, e)) (hst : st = [.int x]) (h : match (generalizing := false) a with
        | 0 => Q.1 x G
        | _ => (x = nI 0 ∨ x = nI 1) ∧ Q.1 x G) : SND z ro cA D roArr m rc rs pc ls st G Q := by
  obtain ⟨hd, hn⟩ := gChk_dec hE.1
  have hk := hE.1
  simp only [gChk, Bool.and_eq_true, decide_eq_true_eq, beq_iff_eq] at hk
  have hk := hk.2
  subst hst
  intro p l e R s mid args below meth c H locs cells slots lsr hC hr hl hS hc hs
  cases a with
  | zero =>
    have hret : gRet m = some .int := of_decide_eq_true hk
    exact snd_fin hc hs (W.iret hC.1 hC.2.1 (hC.ret.trans hret) (fun t ht hW => ⟨⟨_, rfl, Or.inl ⟨x, G, rfl, h, by rw [ht]; exact hr⟩⟩, hS.toF ht⟩) (fun q hq => hS.2.2 q hq) hd hC.lk)
  | succ a =>
    have hret : gRet m = some .boolean := of_decide_eq_true hk
    obtain ⟨h0, h⟩ := h
    exact snd_fin hc hs (W.zret hC.1 hC.2.1 (hC.ret.trans hret) (by rcases h0 with rfl | rfl <;> rfl) (fun t ht hW => ⟨⟨_, rfl, Or.inl ⟨x, G, rfl, h, by rw [ht]; exact hr⟩⟩, hS.toF ht⟩) (fun q hq => hS.2.2 q hq) hd hC.lk)
theorem snd_return {n a b c d e : Nat} (hE : gEnt m pc (.return_, n, a, b, c, d, e)) (hst : st = []) (h : Q.2.1 G) : SND z ro cA D roArr m rc rs pc ls st G Q := by
  obtain ⟨hd, hn⟩ := gChk_dec hE.1
  have hk := hE.1
  simp only [gChk, Bool.and_eq_true, decide_eq_true_eq, beq_iff_eq] at hk
  have hk := hk.2
  subst hst
  intro p l e R s mid args below meth c H locs cells slots lsr hC hr hl hS hc hs
  exact snd_fin hc hs (W.vret hC.1 hC.2.1 (hC.ret.trans hk) (fun t ht hW => ⟨⟨_, rfl, Or.inr (Or.inl ⟨G, rfl, h, by rw [ht]; exact hr⟩)⟩, hS.toF ht⟩) (fun q hq => hS.2.2 q hq) hd hC.lk)
theorem snd_areturn {n a b c d e x : Nat} (hE : gEnt m pc (.areturn, n, a, b, c, d, e)) (hst : st = [.ref x]) (h : Q.2.2.1 x G) : SND z ro cA D roArr m rc rs pc ls st G Q := by
  obtain ⟨hd, hn⟩ := gChk_dec hE.1
  have hk := hE.1
  simp only [gChk, Bool.and_eq_true, decide_eq_true_eq, beq_iff_eq] at hk
  have hk := hk.2
  subst hst
  intro p l e R s mid args below meth c H locs cells slots lsr hC hr hl hS hc hs
  obtain ⟨rt, hrt, hrf⟩ : ∃ rt, gRet m = some rt ∧ ((∃ n, rt = .object n) ∨ ∃ t, rt = .array t) := by
    cases hq : gRet m with
    | none => rw [hq] at hk; cases hk
    | some rt =>
      rw [hq] at hk
      cases rt <;> first | exact ⟨_, rfl, Or.inl ⟨_, rfl⟩⟩ | exact ⟨_, rfl, Or.inr ⟨_, rfl⟩⟩ | cases hk
  exact snd_fin hc hs (W.aret hC.1 hC.2.1 (hC.ret.trans hrt) hrf (Or.inr ⟨_, rfl⟩) (fun t ht hW => ⟨⟨_, rfl, Or.inr (Or.inr (Or.inl ⟨x, G, rfl, h, by rw [ht]; exact hr⟩))⟩, hS.toF ht⟩) (fun q hq => hS.2.2 q hq) hd hC.lk)
theorem snd_dreturn {n a b c d e : Nat} {x : UInt64} (hE : gEnt m pc (.dreturn, n, a, b, c, d, e)) (hst : st = [.double x]) (h : Q.2.2.2.1 x G) : SND z ro cA D roArr m rc rs pc ls st G Q := by
  obtain ⟨hd, hn⟩ := gChk_dec hE.1
  have hk := hE.1
  simp only [gChk, Bool.and_eq_true, decide_eq_true_eq, beq_iff_eq] at hk
  have hk := hk.2
  subst hst
  intro p l e R s mid args below meth c H locs cells slots lsr hC hr hl hS hc hs
  exact snd_fin hc hs (W.dret hC.1 hC.2.1 (hC.ret.trans hk) (fun t ht hW => ⟨⟨_, rfl, Or.inr (Or.inr (Or.inr (Or.inl ⟨x, G, rfl, h, by rw [ht]; exact hr⟩)))⟩, hS.toF ht⟩) (fun q hq => hS.2.2 q hq) hd hC.lk)
theorem snd_freturn {n a b c d e : Nat} {x : UInt32} (hE : gEnt m pc (.freturn, n, a, b, c, d, e)) (hst : st = [.float x]) (h : Q.2.2.2.2.1 x G) : SND z ro cA D roArr m rc rs pc ls st G Q := by
  obtain ⟨hd, hn⟩ := gChk_dec hE.1
  have hk := hE.1
  simp only [gChk, Bool.and_eq_true, decide_eq_true_eq, beq_iff_eq] at hk
  have hk := hk.2
  subst hst
  intro p l e R s mid args below meth c H locs cells slots lsr hC hr hl hS hc hs
  exact snd_fin hc hs (W.fret hC.1 hC.2.1 (hC.ret.trans hk) (fun t ht hW => ⟨⟨_, rfl, Or.inr (Or.inr (Or.inr (Or.inr ⟨x, G, rfl, h, by rw [ht]; exact hr⟩)))⟩, hS.toF ht⟩) (fun q hq => hS.2.2 q hq) hd hC.lk)
theorem gnw_ot : ∀ w ∈ gnw, vx_ot w = true := by decide +kernel
theorem gw_ot : ∀ w ∈ gw, vx_ot w = true := fun w hw => by
  have := (List.mem_filter.mp hw).2
  simp [vx_ot, this]
theorem gNames_fit : ∀ n ∈ gNames, Bundle.fit n = true := by decide +kernel
/-- throw new X("..") -/
theorem snd_throw {idx n a b c d e : Nat} (hE : gEnt m pc (.new idx, n, a, b, c, d, e + 1)) (h1 : 1 ≤ rc) (h2 : 6 ≤ rs) (h3 : Nat.ble (gCat st) 8 = true) (h : Q.2.2.2.2.2 (gExc a) (gDirty G)) : SND z ro cA D roArr m rc rs pc ls st G Q := by
  obtain ⟨hd, hn⟩ := gChk_dec hE.1
  have hk := hE.1
  simp only [gChk, Bool.and_eq_true, decide_eq_true_eq, beq_iff_eq] at hk
  have hk := hk.2
  have hk : (decide (a < 3) && decide (decode (gCode m) (pc + 3) = .ok (.dup, 1)) && (bif b == 0 then decide (decode (gCode m) (pc + 4) = .ok (.ldc c, 2)) && decide (decode (gCode m) (pc + 6) = .ok (.invokespecial d, 3)) && decide (decode (gCode m) (pc + 9) = .ok (.athrow, 1)) else decide (decode (gCode m) (pc + 4) = .ok (.ldc_w c, 3)) && decide (decode (gCode m) (pc + 7) = .ok (.invokespecial d, 3)) && decide (decode (gCode m) (pc + 10) = .ok (.athrow, 1))) && decide (6 ≤ gFrames m) && decide (140 ≤ gLocs m) && (gHh m).isEmpty && (gHT m).isEmpty) = true := hk
  simp only [Bool.and_eq_true, decide_eq_true_eq] at hk
  obtain ⟨⟨⟨⟨⟨⟨k1, k2⟩, k3⟩, k4⟩, k5⟩, k6⟩, k7⟩ := hk
  obtain ⟨⟨t1, t2, t3, t4⟩, tx, t5⟩ := hE.2
  have h8 : gCat st ≤ 8 := Nat.le_of_ble_eq_true h3
  intro p l e R s mid args below meth cd H locs cells slots lsr hC hr hl hS hc hs
  obtain ⟨sa, hsa⟩ := hC.env.2.2.2.2.2.2.2.2.1 _ t5
  have hat : ∀ w ∈ vx_atS (gY m).cls d (gExc a) gNames, w.before args s = true := fun w hw => by
    rcases t3 w hw with q | q
    · exact hC.hts w q
    · exact vx_ot_at (State.WarmedH.refl s) rfl (gnw_ot w q) (hC.env.2.2.1 w q)
  have hgood : ∀ w ∈ Cond.classLink (gY m).cls idx (gExc a) :: Cond.initialized (gExc a) :: vx_atS (gY m).cls d (gExc a) gNames, vx_ot w = true := fun w hw => by
    rcases List.mem_cons.mp hw with rfl | hw
    · exact gw_ot _ t1
    rcases List.mem_cons.mp hw with rfl | hw
    · exact gw_ot _ t2
    rcases t3 w hw with q | q
    · exact gw_ot w q
    · exact gnw_ot w q
  have hHT : gHT m = [] := List.isEmpty_iff.mp k7
  have htab : cd.exceptionTable.toList = [] := by rw [hC.tab, hHT]; rfl
  have hXC : ∀ t : State, s.vm.Alike t.vm → H.size ≤ t.heap.size → (∀ q : Nat, q < H.size → t.heap[q]? = H[q]?) → gXC z ro cA D roArr Q (gExc a) s t := fun t ht hz hq =>
    ⟨⟨gDirty G, ⟨a, k1, rfl⟩, h, hr.dirty.kept (Or.inr rfl) (fun q _ hlt => hq q hlt)⟩, ⟨Nat.le_trans hS.1 hz, fun q g1 g2 => (hq q (Nat.lt_of_lt_of_le g1 hS.1)).trans (hS.2.1 q g1 g2)⟩⟩
  have e1 : ((st.map (gv z ro)).map fun v => v.category).sum = gCat st := gCat_sum st
  have hfr := hC.fr
  have hlo := hC.lo
  cases b with
  | zero =>
    simp only [beq_self_eq_true, cond_true, Bool.and_eq_true, decide_eq_true_eq] at k3
    obtain ⟨⟨d4, d6⟩, d9⟩ := k3
    exact vx_throwS hC.1 hC.2.1 hC.tr hC.own t4 gNames_fit (hC.hts _ t1) (hC.hts _ t2) hsa hat hgood hC.env.2.2.2.2.2.2.2.2.2.2.2.1 hC.env.2.2.2.2.2.2.2.2.2.2.2.2 hS (hl.1.trans hC.ml.symm) hd k2 d4 d6 d9 (fun x hx => by rw [htab] at hx; cases hx)
      (by show 2 + 3 < R.frames; omega) (by rw [e1]; show gCat st + (13 * (2 + 1) + 43) ≤ R.locals; omega) (by omega) (by omega) hC.lk hXC (fun q hq => hS.2.2 q hq) (by omega) (by omega)
  | succ b =>
    have k3 : (decide (decode (gCode m) (pc + 4) = .ok (.ldc_w c, 3)) && decide (decode (gCode m) (pc + 7) = .ok (.invokespecial d, 3)) && decide (decode (gCode m) (pc + 10) = .ok (.athrow, 1))) = true := k3
    simp only [Bool.and_eq_true, decide_eq_true_eq] at k3
    obtain ⟨⟨d4, d6⟩, d9⟩ := k3
    exact vx_throwSW hC.1 hC.2.1 hC.tr hC.own t4 gNames_fit (hC.hts _ t1) (hC.hts _ t2) hsa hat hgood hC.env.2.2.2.2.2.2.2.2.2.2.2.1 hC.env.2.2.2.2.2.2.2.2.2.2.2.2 hS (hl.1.trans hC.ml.symm) hd k2 d4 d6 d9 (fun x hx => by rw [htab] at hx; cases hx)
      (by show 2 + 3 < R.frames; omega) (by rw [e1]; show gCat st + (13 * (2 + 1) + 43) ≤ R.locals; omega) (by omega) (by omega) hC.lk hXC (fun q hq => hS.2.2 q hq) (by omega) (by omega)
theorem snd_ldc {idx n a b c d e : Nat} (hE : gEnt m pc (.ldc idx, n, a, b, c, d, e)) (h : match (generalizing := false) e with
      | 0 => SND z ro cA D roArr m rc rs n ls (.int (gK b a) :: st) G Q
      | _ => SND z ro cA D roArr m rc rs n ls (.ref a :: st) G Q) : SND z ro cA D roArr m rc rs pc ls st G Q := by
  obtain ⟨hd, hn⟩ := gChk_dec hE.1
  subst hn
  cases e with
  | zero => exact snd_lin h fun hC _ k => lv_ldc hC.1 hC.2.1 hC.own (hC.hts _ hE.2) hd k
  | succ e =>
    obtain ⟨h1, tx, h2⟩ := hE.2
    intro p l e R s mid args below meth c H locs cells slots lsr hC hr hl hS hc hs
    have hk := h _ _ e _ _ _ _ below _ _ _ _ _ _ _ hC hr hl hS hc hs
    rw [List.map_cons, show gv z ro (.ref a) = .ref (ro a) from congrArg Value.ref (gAd_ro h1)] at hk
    exact va_ldcS hC.1 hC.2.1 hC.own (hC.env.2.2.2.2.2.2.2.1 _ h2) hd hk
theorem snd_ldcw {idx n a b c d e : Nat} (hE : gEnt m pc (.ldc_w idx, n, a, b, c, d, e)) (h : match (generalizing := false) e with
      | 0 => SND z ro cA D roArr m rc rs n ls (.int (gK b a) :: st) G Q
      | _ => SND z ro cA D roArr m rc rs n ls (.ref a :: st) G Q) : SND z ro cA D roArr m rc rs pc ls st G Q := by
  obtain ⟨hd, hn⟩ := gChk_dec hE.1
  subst hn
  cases e with
  | zero => exact (show False from hE.2).elim
  | succ e =>
    obtain ⟨h1, tx, h2⟩ := hE.2
    intro p l e R s mid args below meth c H locs cells slots lsr hC hr hl hS hc hs
    have hk := h _ _ e _ _ _ _ below _ _ _ _ _ _ _ hC hr hl hS hc hs
    rw [List.map_cons, show gv z ro (.ref a) = .ref (ro a) from congrArg Value.ref (gAd_ro h1)] at hk
    have hZ := hC.env.2.2.2.2.2.2.2.1 _ h2
    intro T hT X
    obtain ⟨t, a1, b1⟩ := hk T hT X
    exact ⟨t, X.ldcStringW hC.1 hC.own (text := tx) (a := ro a) hZ.1 hZ.2 (g := F0 mid pc lsr (st.map (gv z ro))) rfl (by rw [hC.2.1]; exact hd) t a1, b1⟩
end Snd3
end
section
/-! ===== soundness: calls ===== -/
theorem lg_sl_1 : ∀ {vs : List Value}, (∀ v ∈ vs, v.category = 1) → lg_sl vs = vs.map Slot.val
  | [], _ => rfl
  | v :: vs, h => by
    have h1 := h v List.mem_cons_self
    have ih := lg_sl_1 (vs := vs) fun w hw => h w (List.mem_cons_of_mem _ hw)
    have e : lg_sl (v :: vs) = (if v.category = 2 then [.val v, .second] else [.val v]) ++ lg_sl vs := rfl
    rw [e, if_neg (by rw [h1]; decide), ih]
    rfl
theorem gCat_1 : ∀ {vs : List Value}, gCat vs = vs.length → ∀ v ∈ vs, v.category = 1 := by
  have key : ∀ vs : List Value, vs.length ≤ gCat vs := by
    intro vs
    induction vs with
    | nil => exact Nat.le_refl _
    | cons v r ih => cases v <;> simp only [gCat, List.length_cons] <;> omega
  intro vs
  induction vs with
  | nil => intro _ v hv; cases hv
  | cons w r ih =>
    intro h v hv
    have hk := key r
    cases w <;> simp only [gCat, List.length_cons] at h <;> first | omega | (rcases List.mem_cons.mp hv with rfl | hv; rfl; exact ih (by omega) v hv)
section Snd4
variable {z : Nat} {ro : Nat → Nat} {cA : FieldType → ClassId} {D : va_G} {roArr : Nat → Option (Nat × (Nat → Int32))}
variable {m rc rs pc : Nat} {ls : GL} {st : List Value} {G : GH} {Q : GQ}
theorem gLoc_entry {a : Nat} {as : List Value} (hlen : as.length ≤ gMaxL a) (hcat : ∀ v ∈ as, v.category = 1) : gLoc z ro ((lg_sl (as.map (gv z ro)) ++ List.replicate (gMaxL a - (lg_sl (as.map (gv z ro))).length) Slot.unset).toArray) (gMaxL a) (gEntry a as) := by
  have hc2 : ∀ v ∈ as.map (gv z ro), v.category = 1 := fun v hv => by
    obtain ⟨w, hw, rfl⟩ := List.mem_map.mp hv
    rw [gv_cat]
    exact hcat w hw
  have e := lg_sl_1 hc2
  have hle : (lg_sl (as.map (gv z ro))).length ≤ gMaxL a := by rw [e]; simpa using hlen
  obtain ⟨h1, h2, -⟩ := lv_entry (as.map (gv z ro)) hle
  refine ⟨h1, h2, fun q hq => ?_⟩
  obtain ⟨i, w⟩ := q
  obtain ⟨v, hv, rfl⟩ := gAs_mem.mp hq
  have hi : i < as.length ∧ as[i]? = some v := by
    unfold gEntry at hv
    by_cases hi : i < as.length
    · rw [List.getElem?_append_left (by simpa using hi), List.getElem?_map] at hv
      cases ha : as[i]? with
      | none => rw [ha] at hv; cases hv
      | some v' =>
        rw [ha] at hv
        cases hv
        exact ⟨hi, rfl⟩
    · rw [List.getElem?_append_right (by simpa using Nat.le_of_not_lt hi), List.getElem?_replicate] at hv
      split at hv <;> cases hv
  show (_ : List Slot).toArray[i]? = _
  rw [e, List.getElem?_toArray, List.getElem?_append_left (by simpa using hi.1), List.getElem?_map, List.getElem?_map, hi.2]
  rfl
abbrev gRm (a c d : Nat) : Room := { frames := gFrames a, cells := c, slots := d, locals := gLocs a }
/-- a method's body, from its entry -/
theorem snd_body {a c1 d1 : Nat} {as : List Value} {P : GQ} {l : Launch} (htr : l.stackTraces = false) (hlen : as.length ≤ gMaxL a) (hcat : ∀ v ∈ as, v.category = 1) (h : gC (SND z ro cA D roArr) a c1 d1 as G P)
    {p : Program} {e : Env} {s : State} {mid : MethodId} {args : Array Value} {below : List Frame} {meth : Method} {c : Code} (hx : p.tables.exec = Jvm.exec) (hb : c.code = gCode a) (hml : c.maxLocals = gMaxL a) (hret : meth.sig.returnType = gRet a) (hown : s.vm.findClass (gY a).cls = some mid.cls) (hts : ∀ w ∈ gw, w.before args s = true) (hlk : meth.locks = false) (hnm : meth.name = (gY a).name) (htab : c.exceptionTable.toList = tableOf (gHT a))
    (hv : gPc z ro cA D roArr G as args s) : W p l e (gRm a c1 d1) s mid args below meth c s.heap [] 0 0 (vx_MQ below (gQc z ro cA D roArr P) (gXC z ro cA D roArr P) args s c1 d1 (gA z ro)) (entryFrame mid args (gMaxL a)) := by
  obtain ⟨rfl, hr, hE⟩ := hv
  rw [lg_entry_eq]
  exact h p l e (gRm a c1 d1) s mid _ below meth c s.heap [] 0 0 _ ⟨hx, hb, hml, hret, hown, hts, hlk, hnm, hE, htr, htab, Nat.le_refl _, Nat.le_refl _⟩ hr (gLoc_entry hlen hcat) va_S.rf (by simp) (by simp)
theorem snd_met {a c1 d1 : Nat} {as : List Value} {P : GQ} {l : Launch} (htr : l.stackTraces = false) (hpl : plainName (gY a).cls = true) (hlen : as.length ≤ gMaxL a) (hcat : ∀ v ∈ as, v.category = 1) (hH : gHT a = []) (h : gC (SND z ro cA D roArr) a c1 d1 as G P) :
    vx_Met l (gY a) (Cond.code (gY a) (gCode a) (gMaxL a) (gRet a) :: gw) (gRm a c1 d1) (gPc z ro cA D roArr G as) (gQc z ro cA D roArr P) (gXC z ro cA D roArr P) c1 d1 (gA z ro) := by
  refine vx_ofW hpl rfl ?_
  intro p e s m args below meth c s₁ B hml hno hv
  have hts := atoms_spec (ws := Cond.code (gY a) (gCode a) (gMaxL a) (gRet a) :: gw) B.pre
  refine snd_body htr hlen hcat h B.exec B.bytes hml B.returns (findClass_of_methodNamed B.named) (fun w hw => hts w (List.mem_cons_of_mem _ hw)) B.notSynchronized (name_of_methodNamed B.named B.method).1 ?_ hv
  rw [hH]
  exact List.eq_nil_iff_forall_not_mem.mpr fun x hx => hno x hx
theorem snd_metW {a c1 d1 : Nat} {as : List Value} {P : GQ} {l : Launch} (htr : l.stackTraces = false) (hpl : plainName (gY a).cls = true) (hlen : as.length ≤ gMaxL a) (hcat : ∀ v ∈ as, v.category = 1) (h : gC (SND z ro cA D roArr) a c1 d1 as G P) :
    vx_Met l (gY a) (Cond.codeWith (gY a) (gCode a) (gMaxL a) (gRet a) (gHT a) :: gw) (gRm a c1 d1) (gPc z ro cA D roArr G as) (gQc z ro cA D roArr P) (gXC z ro cA D roArr P) c1 d1 (gA z ro) := by
  refine vx_ofWH hpl rfl ?_
  intro p e s m args below meth c s₁ B hml hv
  have hts := atoms_spec (ws := Cond.codeWith (gY a) (gCode a) (gMaxL a) (gRet a) (gHT a) :: gw) B.pre
  exact snd_body htr hlen hcat h B.exec B.bytes hml B.returns (findClass_of_methodNamed B.named) (fun w hw => hts w (List.mem_cons_of_mem _ hw)) B.notSynchronized (name_of_methodNamed B.named B.method).1 (vx_table (x := gY a) B (hts _ List.mem_cons_self)) hv
theorem gRes.mono {P P' : GQ} {v : Option Value} {H : Heap} (hL : gLe P P') (h : gRes z ro cA D roArr P v H) : gRes z ro cA D roArr P' v H := by
  rcases h with ⟨x, G, a, b, c⟩ | ⟨G, a, b, c⟩ | ⟨x, G, a, b, c⟩ | ⟨x, G, a, b, c⟩ | ⟨x, G, a, b, c⟩
  · exact Or.inl ⟨x, G, a, hL.1 _ _ b, c⟩
  · exact Or.inr (Or.inl ⟨G, a, hL.2.1 _ b, c⟩)
  · exact Or.inr (Or.inr (Or.inl ⟨x, G, a, hL.2.2.1 _ _ b, c⟩))
  · exact Or.inr (Or.inr (Or.inr (Or.inl ⟨x, G, a, hL.2.2.2.1 _ _ b, c⟩)))
  · exact Or.inr (Or.inr (Or.inr (Or.inr ⟨x, G, a, hL.2.2.2.2.1 _ _ b, c⟩)))
/-- what is wanted behind a call of kind e -/
def gKq (X : GX) (KX : String → GH → Prop) (rc rs n : Nat) (ls : GL) (rest : List Value) (e : Nat) : GQ := match e with
  | 0 => gQi (fun x G => X rc rs n ls (.int x :: rest) G) KX
  | 1 => gQv (fun G => X rc rs n ls rest G) KX
  | 2 => gQr (fun x G => X rc rs n ls (.ref x :: rest) G)
  | 3 => gQd (fun x G => X rc rs n ls (.double x :: rest) G)
  | _ => gQf (fun x G => X rc rs n ls (.float x :: rest) G)
theorem gKq_next {KX : String → GH → Prop} {rc rs n : Nat} {ls : GL} {rest : List Value} {e : Nat} {v : Option Value} {H : Heap} (h : gRes z ro cA D roArr (gKq (fun rc rs pc ls st G => SND z ro cA D roArr m rc rs pc ls st G Q) KX rc rs n ls rest e) v H) :
    ∃ (G : GH) (st' : List Value), SND z ro cA D roArr m rc rs n ls st' G Q ∧ gRep z ro cA D roArr G H ∧ v.toList ++ rest.map (gv z ro) = st'.map (gv z ro) := by
  unfold gKq at h
  split at h
  all_goals rcases h with ⟨x, G, a, b, c⟩ | ⟨G, a, b, c⟩ | ⟨x, G, a, b, c⟩ | ⟨x, G, a, b, c⟩ | ⟨x, G, a, b, c⟩
  all_goals first | exact b.elim | (subst a; exact ⟨G, _, b, c, rfl⟩)
theorem gBif_el {c : Bool} {A : Prop} (h : bif c then A else False) : c = true ∧ A := by
  cases c
  · exact h.elim
  · exact ⟨rfl, h⟩
/-- the calls of the program's own methods -/
theorem gInv_own {C : Nat → Nat → Nat → List Value → GH → GQ → Prop} {X : GX} {S : GS} {hh : GHd} {n a b c d e : Nat} (he : e < 5 ∨ e = 10 ∨ e = 11) (h : gInv C X Q S hh rc rs pc ls st G n a b c d e) :
    gCat (st.drop b) ≤ 8 ∧ (st.take b).length = b ∧ gCat (st.take b) = b ∧ ∃ c1 d1, c1 ≤ rc ∧ d1 ≤ rs ∧
    C a c1 d1 (st.take b).reverse G (gKq X (if e < 5 then gNo else fun E G => gHand X Q.2.2.2.2.2 (rc - c1) (rs - d1) pc ls E G hh) (rc - c1) (rs - d1) n ls (st.drop b) (e % 10)) := by
  have key : ∀ {A : Prop}, (bif Nat.ble (gCat (st.drop b)) 8 && (Nat.beq (st.take b).length b && Nat.beq (gCat (st.take b)) b) then A else False) → gCat (st.drop b) ≤ 8 ∧ (st.take b).length = b ∧ gCat (st.take b) = b ∧ A := by
    intro A h
    obtain ⟨h1, h2⟩ := gBif_el h
    simp only [Bool.and_eq_true] at h1
    exact ⟨Nat.le_of_ble_eq_true h1.1, Nat.eq_of_beq_eq_true h1.2.1, Nat.eq_of_beq_eq_true h1.2.2, h2⟩
  rcases he with he | rfl | rfl
  · match e, he, h with
    | 0, _, h => exact key h
    | 1, _, h => exact key h
    | 2, _, h => exact key h
    | 3, _, h => exact key h
    | 4, _, h => exact key h
  · exact key h
  · exact key h
end Snd4
end
section
/-! ===== soundness: calls of the program's own methods, handlers, primitives ===== -/
theorem vx_toMet {l : Launch} {y : MethodName} {ws : List Cond} {rm : Room} {Pc : Array Value → State → Prop} {Qc : Array Value → State → Outcome → State → Prop} {XC : String → State → State → Prop} {mc ms : Nat} {free : Addr → Prop} (h : vx_Met l y ws rm Pc Qc XC mc ms free) (hno : ∀ E s t, ¬ XC E s t) : Met l y ws rm Pc Qc mc ms free := by
  intro p e h1 h2 h3 s m args below h4 h5 h6 h7
  obtain ⟨n, o, a, b, c, d⟩ := h p e h1 h2 h3 s m args below h4 h5 h6 h7
  refine ⟨n, o, a, b, c, ?_⟩
  rcases d with d | ⟨q, -, E, ce, L, x, -⟩
  · exact d
  · exact absurd x (hno _ _ _)
/-- what makes the tables right, with the classes of the receivers -/
def gFactsA : Prop := gFacts ∧ ∀ a q, vwCl[gCls a]? = some q → q.1 = (gY a).cls
section Snd5
variable {z : Nat} {ro : Nat → Nat} {cA : FieldType → ClassId} {D : va_G} {roArr : Nat → Option (Nat × (Nat → Int32))}
variable {m rc rs pc : Nat} {ls : GL} {st : List Value} {G : GH} {Q : GQ}
theorem gXC_no {P : GQ} (h : ∀ E G, ¬ P.2.2.2.2.2 E G) : ∀ E s t, ¬ gXC z ro cA D roArr P E s t := fun E s t h' => by
  obtain ⟨⟨G, -, hp, -⟩, -⟩ := h'
  exact h E G hp
/-- the handlers of a method that calls -/
theorem snd_handlers {p : Program} {l : Launch} {e : Env} {R : Room} {s : State} {mid : MethodId} {args : Array Value} {below : List Frame} {meth : Method} {c : Code} {cells slots : Nat} {lsr : Array Slot} {E : String} {ce : Cell} {q9 : Addr} {H1 : Heap} {locs1 : List Loc} {rest : List Value} {rc1 rs1 : Nat}
    (hC : gCtx z ro cA D roArr m p l R s mid args meth c) (hl : gLoc z ro lsr (gMaxL m) ls) (hr : gRep z ro cA D roArr G H1) (hS : va_S (gA z ro) s.heap H1 locs1) (hc : cells + rc1 ≤ R.cells) (hs : slots + rs1 ≤ R.slots) (hcell : H1[q9]? = some ce) (hv : ce.vm = .none) (hcl : s.vm.findClass E = some ce.cls) (hEi : ∃ i, i < 3 ∧ E = gExc i) :
    ∀ (hh : GHd) (ht pre : List (Nat × Nat × Nat × Nat)), gHT m = pre ++ ht → gHdl m ht hh → (∀ q ∈ tableOf pre, covers q pc = false ∨ (q.catchType ≠ 0 ∧ ∃ nm : String, (Cond.classLink (gY m).cls q.catchType nm).before args s = true ∧ va_Nc E nm s)) →
      gHand (fun rc rs pc ls st G => SND z ro cA D roArr m rc rs pc ls st G Q) Q.2.2.2.2.2 rc1 rs1 pc ls E G hh → vx_W p l e R s mid args below meth c H1 locs1 cells slots (gZ z ro cA D roArr Q R s args below) (F0 mid pc lsr rest) q9
  | [], [], pre, hsplit, _, hpass, h => by
    refine vx_outP (own := (gY m).cls) (E := E) hC.own hC.lk ?_ hcell hv hcl (fun t ht hA => ⟨⟨G, hEi, h, by rw [ht]; exact hr⟩, hS.toF ht⟩) (fun q hq => hS.2.2 q hq) (by omega) (by omega)
    rw [hC.tab, hsplit, List.append_nil]
    exact hpass
  | [], _ :: _, _, _, hd, _, _ => hd.elim
  | _ :: _, [], _, _, hd, _, _ => hd.elim
  | (s', t', h', k, nm) :: hh, (s0, t0, h0, ci) :: ht, pre, hsplit, hd, hpass, h => by
    obtain ⟨rfl, rfl, hci, hk, hst, hcl1, ⟨i, hi, hnm⟩, hcast, hrest⟩ := hd
    have hsplit2 : gHT m = (pre ++ [(s0, t0, h0, ci)]) ++ ht := by rw [hsplit]; simp
    have hnext : (∀ q ∈ tableOf (pre ++ [(s0, t0, h0, ci)]), covers q pc = false ∨ (q.catchType ≠ 0 ∧ ∃ nm : String, (Cond.classLink (gY m).cls q.catchType nm).before args s = true ∧ va_Nc E nm s)) → gHand (fun rc rs pc ls st G => SND z ro cA D roArr m rc rs pc ls st G Q) Q.2.2.2.2.2 rc1 rs1 pc ls E G hh → vx_W p l e R s mid args below meth c H1 locs1 cells slots (gZ z ro cA D roArr Q R s args below) (F0 mid pc lsr rest) q9 :=
      fun hp hg => snd_handlers hC hl hr hS hc hs hcell hv hcl hEi hh ht _ hsplit2 hrest hp hg
    have htabs : ∀ q ∈ tableOf (pre ++ [(s0, t0, h0, ci)]), q ∈ tableOf pre ∨ q = ⟨s0, t0, h0, ci⟩ := fun q hq => by
      simp only [tableOf, List.map_append, List.mem_append, List.map_cons, List.map_nil, List.mem_singleton] at hq ⊢
      exact hq
    unfold gHand at h
    by_cases hcov : (Nat.ble s0 pc && Nat.blt pc t0) = true
    · rw [hcov, cond_true] at h
      have hcov2 : covers (⟨s0, t0, h0, ci⟩ : ExceptionTableEntry) pc = true := by
        simp only [Bool.and_eq_true] at hcov
        have h1 : s0 ≤ pc := Nat.le_of_ble_eq_true hcov.1
        have h2 : pc < t0 := Nat.le_of_ble_eq_true hcov.2
        simp [covers, h1, h2]
      by_cases hEn : E = nm
      · rw [if_pos hEn] at h
        subst hEn
        refine vx_catch (E := E) (name := E) hC.own (tableOf pre) ⟨s0, t0, h0, ci⟩ (tableOf ht) (by rw [hC.tab, hsplit]; simp [tableOf]) hpass hcov2 hci (hC.hts _ hcl1) (vx_ot_at (State.WarmedH.refl s) rfl (gnw_ot _ hcast) (hC.env.2.2.1 _ hcast)) hcell hv hcl ?_
        have goon : ∀ lsr' : Array Slot, lv_has lsr' (gMaxL m) ((k, Value.ref q9) :: (gAs z ro ls).filter (fun q => !(q.1 == k) && !(q.1 + 1 == k && q.2.category == 2))) → W p l e R s mid args below meth c H1 locs1 cells slots (gZ z ro cA D roArr Q R s args below) (F0 mid h' lsr' []) := fun lsr' hl' => by
          refine h p l e R s mid args below meth c H1 locs1 cells slots lsr' hC hr ⟨hl'.1, hl'.2.1, fun q hq => hl'.2.2 q ?_⟩ hS hc hs
          obtain ⟨j, w⟩ := q
          obtain ⟨v, hv, rfl⟩ := gAs_mem.mp hq
          rw [List.getElem?_set] at hv
          by_cases e : k = j
          · rw [if_pos e] at hv
            split at hv <;> cases hv
          · rw [if_neg e] at hv
            obtain ⟨g1, g2⟩ := gKill_get hv
            refine List.mem_cons_of_mem _ (List.mem_filter.mpr ⟨gAs_mem.mpr ⟨v, g1, rfl⟩, ?_⟩)
            simp only [gv_cat, Bool.and_eq_true, Bool.not_eq_true', beq_eq_false_iff_ne, Bool.and_eq_false_iff]
            refine ⟨fun q => e q.symm, ?_⟩
            by_cases q : j + 1 = k
            · exact Or.inr fun c => g2 ⟨q, c⟩
            · exact Or.inl q
        rcases hst with ⟨f, hf, hdec, rfl⟩ | ⟨hdec, rfl⟩
        · exact lv_astore_n hC.1 hC.2.1 hdec hf hl hk rfl goon
        · exact lv_astore hC.1 hC.2.1 hdec hl hk rfl goon
      · rw [if_neg hEn] at h
        refine hnext (fun q hq => ?_) h
        rcases htabs q hq with hq | rfl
        · exact hpass q hq
        · obtain ⟨i', hi', hE'⟩ := hEi
          refine Or.inr ⟨hci, nm, hC.hts _ hcl1, ?_⟩
          rw [hnm, hE']
          exact hC.env.2.2.2.1 i' i hi' hi (fun q => hEn (by rw [hE', hnm, q]))
    · rw [Bool.not_eq_true] at hcov
      rw [hcov, cond_false] at h
      refine hnext (fun q hq => ?_) h
      rcases htabs q hq with hq | rfl
      · exact hpass q hq
      · left
        simp only [Bool.and_eq_false_iff] at hcov
        rcases hcov with h1 | h1
        · have : ¬ s0 ≤ pc := fun q => by rw [Nat.ble_eq_true_of_le q] at h1; cases h1
          simp [covers, this]
        · have : ¬ pc < t0 := fun q => by rw [show Nat.blt pc t0 = true from Nat.ble_eq_true_of_le q] at h1; cases h1
          simp [covers, this]

theorem gKq_noX {X : GX} {KX : String → GH → Prop} {rc rs n : Nat} {ls : GL} {rest : List Value} {e : Nat} (h : ∀ E G, ¬ KX E G) : ∀ E G, ¬ (gKq X KX rc rs n ls rest e).2.2.2.2.2 E G := by
  intro E G hq
  unfold gKq at hq
  split at hq
  · exact h E G hq
  · exact h E G hq
  · exact hq
  · exact hq
  · exact hq
theorem gKq_X {X : GX} {KX : String → GH → Prop} {rc rs n : Nat} {ls : GL} {rest : List Value} {e : Nat} {E : String} {G : GH} (hq : (gKq X KX rc rs n ls rest e).2.2.2.2.2 E G) : KX E G := by
  unfold gKq at hq
  split at hq
  · exact hq
  · exact hq
  · exact hq.elim
  · exact hq.elim
  · exact hq.elim
theorem gCk_el {a b c d : Nat} (h : gCk m a b c d = true) : gFrames a + 1 ≤ gFrames m ∧ 8 + (gMaxL a + 11) + gLocs a ≤ gLocs m ∧ c = gCells a ∧ d = gSlots a ∧ (gY a).cls ≠ "java/lang/invoke/MethodHandle" ∧ (gY a).cls ≠ "java/lang/invoke/VarHandle" ∧ (parseMethodDescriptor (gY a).desc).map (fun q => q.parameters.length) = some b ∧ plainName (gY a).cls = true ∧ gMaxL a ≥ b := by
  simp only [gCk, Bool.and_eq_true, decide_eq_true_eq, beq_iff_eq] at h
  exact ⟨h.1.1.1.1.1.1.1.1, h.1.1.1.1.1.1.1.2, h.1.1.1.1.1.1.2, h.1.1.1.1.1.2, h.1.1.1.1.2, h.1.1.1.2, h.1.1.2, h.1.2, h.2⟩
theorem gGood_mem {own : String} {idx : Nat} {y : MethodName} {ws : List Cond} {C : String} (h1 : Cond.methodLink own idx y ∈ gw) (h2 : Cond.instanceMethod y ∈ gw) (h3 : Cond.selects C y y ∈ gw) (h4 : Cond.initialized C ∈ gw) (h5 : ∀ w ∈ ws, w ∈ gw) : GoodIn gw (wsV own idx C y ws) := gGood fun w hw => by
  simp only [wsV, List.cons_append, List.nil_append, List.mem_cons] at hw
  rcases hw with rfl | rfl | rfl | rfl | hw
  · exact h1
  · exact h2
  · exact h3
  · exact h4
  · exact h5 w hw
theorem gGood_memS {own : String} {idx : Nat} {y : MethodName} {ws : List Cond} (h1 : Cond.methodLink own idx y ∈ gw) (h2 : Cond.static y ∈ gw) (h3 : Cond.initialized y.cls ∈ gw) (h5 : ∀ w ∈ ws, w ∈ gw) : GoodIn gw (va_wsS own idx y ws) := gGood fun w hw => by
  simp only [va_wsS, List.cons_append, List.nil_append, List.mem_cons] at hw
  rcases hw with rfl | rfl | rfl | hw
  · exact h1
  · exact h2
  · exact h3
  · exact h5 w hw
theorem gCode_mem {w0 : Cond} (h : w0 ∈ gw) : ∀ w ∈ w0 :: gw, w ∈ gw := fun w hw => by
  rcases List.mem_cons.mp hw with rfl | hw
  · exact h
  · exact hw
/-- a callee is run: with or without throws -/
theorem snd_after {p : Program} {l : Launch} {e0 : Env} {R : Room} {s : State} {mid : MethodId} {args : Array Value} {below : List Frame} {meth : Method} {c0 : Code} {H : Heap} {locs : List Loc} {cells slots : Nat} {lsr : Array Slot} {P : GQ} {KX : String → GH → Prop} {rest : List Value} {c d e : Nat} {av : Array Value} {st0 : List Value} {hh : GHd}
    (hC : gCtx z ro cA D roArr m p l R s mid args meth c0) (hl : gLoc z ro lsr (gMaxL m) ls) (hS : va_S (gA z ro) s.heap H locs) (hc : cells + rc ≤ R.cells) (hs : slots + rs ≤ R.slots) (hcr : c ≤ rc) (hdr : d ≤ rs)
    (hP : gLe P (gKq (fun rc rs pc ls st G => SND z ro cA D roArr m rc rs pc ls st G Q) KX (rc - c) (rs - d) (pc + 3) ls rest e))
    (hr : (va_Run p l e0 R s mid args below meth c0 H locs cells slots c d (F0 mid pc lsr st0) (rest.map (gv z ro)) (gQc z ro cA D roArr P av) (gA z ro)) ∨ ((vx_Run p l e0 R s mid args below meth c0 H locs cells slots c d (F0 mid pc lsr st0) (rest.map (gv z ro)) (gQc z ro cA D roArr P av) (gXC z ro cA D roArr P) (gA z ro)) ∧ gHdl m (gHT m) hh ∧ ∀ E G, KX E G → gHand (fun rc rs pc ls st G => SND z ro cA D roArr m rc rs pc ls st G Q) Q.2.2.2.2.2 (rc - c) (rs - d) pc ls E G hh)) :
    W p l e0 R s mid args below meth c0 H locs cells slots (gZ z ro cA D roArr Q R s args below) (F0 mid pc lsr st0) := by
  have kk : ∀ v H1 locs1, gRes z ro cA D roArr P v H1 → va_S (gA z ro) s.heap H1 locs1 → W p l e0 R s mid args below meth c0 H1 locs1 (cells + c) (slots + d) (gZ z ro cA D roArr Q R s args below) (F0 mid (pc + 3) lsr (v.toList ++ rest.map (gv z ro))) := by
    intro v H1 locs1 hres hS1
    obtain ⟨G1, st', h1, h2, h3⟩ := gKq_next (hres.mono hP)
    rw [h3]
    exact h1 _ _ _ _ _ _ _ _ _ _ _ _ _ _ _ hC h2 hl hS1 (by omega) (by omega)
  rcases hr with hr | ⟨hr, hd, hk⟩
  · exact g_call hr hS kk
  · refine g_callx hr hS (fun E ce q9 G1 H1 locs1 hEi hp hr1 hS1 hcell hv hcl => ?_) kk
    exact snd_handlers hC hl hr1 hS1 (rc1 := rc - c) (rs1 := rs - d) (by omega) (by omega) hcell hv hcl hEi hh (gHT m) [] rfl hd (fun q hq => by cases hq) (hk E G1 (gKq_X (hP.2.2.2.2.2 E G1 hp)))
end Snd5
end
section
/-! ===== soundness: the invoke instructions ===== -/
section Snd6
variable {z : Nat} {ro : Nat → Nat} {cA : FieldType → ClassId} {D : va_G} {roArr : Nat → Option (Nat × (Nat → Int32))}
variable {m rc rs pc : Nat} {ls : GL} {st : List Value} {G : GH} {Q : GQ}
theorem g_lenE_v {i e : Nat} : gLenE (.invokevirtual i) e = 3 := rfl
/-- the receiver's place on the stack -/
theorem gRcv_el {a b e : Nat} (he : e < 20) (hb : 0 < b) (hlen : (st.take b).length = b) (h : gRcv gCls e a b st G) : ∃ (X : List Value) (o : Nat) (r0 : List Value) (fs : List Value), X.length = b - 1 ∧ st = X ++ .ref o :: r0 ∧ st.take b = X ++ [.ref o] ∧ st.drop b = r0 ∧ o < gRB ∧ G.2 o = some (.inl (gCls a, fs)) := by
  unfold gRcv at h
  have hf : Nat.ble 20 e = false := by
    cases q : Nat.ble 20 e with
    | false => rfl
    | true => exact absurd (Nat.le_of_ble_eq_true q) (by omega)
  rw [hf, cond_false] at h
  have hlen2 : (st.take (b - 1)).length = b - 1 := by
    rw [List.length_take] at hlen ⊢
    omega
  split at h
  · next o r0 hd =>
    obtain ⟨ho, fs, hG⟩ := h
    have hst : st = st.take (b - 1) ++ .ref o :: r0 := by rw [← hd]; exact (List.take_append_drop _ _).symm
    generalize st.take (b - 1) = X at hst hlen2
    refine ⟨X, o, r0, fs, hlen2, hst, ?_, ?_, ho, hG⟩
    · rw [hst, show b = X.length + 1 by omega, List.take_length_add_append]
      rfl
    · rw [hst, show b = X.length + 1 by omega, List.drop_length_add_append]
      rfl
  · exact h.elim
theorem gRep.recv (hF : gFactsA) {p : Program} {l : Launch} {R : Room} {s : State} {mid : MethodId} {args : Array Value} {meth : Method} {c : Code} {H : Heap} {a o : Nat} {fs : List Value} (hC : gCtx z ro cA D roArr m p l R s mid args meth c) (hr : gRep z ro cA D roArr G H) (ho : o < gRB) (hG : G.2 o = some (.inl (gCls a, fs))) : ∃ cell : Cell, H[gAd z ro o]? = some cell ∧ cell.vm.isStatics = false ∧ s.vm.findClass (gY a).cls = some cell.cls := by
  obtain ⟨n', h1, h2, h3, hP, hw⟩ := hr.at ho hG
  obtain ⟨_, _, _, _, _, _, h6⟩ := hr
  obtain ⟨q, hq, -⟩ := h6 o _ _ ho hG
  have := va_recv hC.K hP hq hw
  rw [hF.2 a q hq] at this
  exact this
theorem snd_own_pre {p : Program} {l : Launch} {R : Room} {s : State} {mid : MethodId} {args : Array Value} {meth : Method} {c : Code} {H : Heap} {locs : List Loc} {as : List Value} (hC : gCtx z ro cA D roArr m p l R s mid args meth c) (hr : gRep z ro cA D roArr G H) (hS : va_S (gA z ro) s.heap H locs) : ∀ U : State, U.heap = H → s.WarmedH U.vm → gPc z ro cA D roArr G as (as.map (gv z ro)).toArray U :=
  fun U hU hW => ⟨rfl, by rw [hU]; exact hr, hC.env.to hW (fun q h1 h2 => by rw [hU]; exact hS.2.1 q h1 h2)⟩
theorem gMod10 {e : Nat} (he : e < 5) : e % 10 = e := Nat.mod_eq_of_lt (by omega)
/-- what a call of an own method needs: kinds e with the continuation, the callee's formula -/
theorem gOwn_el {a b c d e n : Nat} (he : e < 5 ∨ e = 10 ∨ e = 11) (hn : n = pc + 3) (h : gInv (gCx (SND z ro cA D roArr)) (fun rc rs pc ls st G => SND z ro cA D roArr m rc rs pc ls st G Q) Q gStr (gHh m) rc rs pc ls st G n a b c d e) :
    gCat (st.drop b) ≤ 8 ∧ (st.take b).length = b ∧ (∀ v ∈ (st.take b).reverse, v.category = 1) ∧ ∃ (c1 d1 : Nat) (P : GQ) (KX : String → GH → Prop), c1 ≤ rc ∧ d1 ≤ rs ∧ gC (SND z ro cA D roArr) a c1 d1 (st.take b).reverse G P ∧ gLe P (gKq (fun rc rs pc ls st G => SND z ro cA D roArr m rc rs pc ls st G Q) KX (rc - c1) (rs - d1) (pc + 3) ls (st.drop b) (e % 10)) ∧
      (e < 5 → ∀ E G, ¬ P.2.2.2.2.2 E G) ∧ (∀ E G, KX E G → gHand (fun rc rs pc ls st G => SND z ro cA D roArr m rc rs pc ls st G Q) Q.2.2.2.2.2 (rc - c1) (rs - d1) pc ls E G (gHh m)) := by
  subst hn
  obtain ⟨h3, h4, h5, c1, d1, h1, h2, P, h6, h7⟩ := gInv_own he h
  refine ⟨h3, h4, fun v hv => gCat_1 (by rw [h5, h4]) v (List.mem_reverse.mp hv), c1, d1, P, _, h1, h2, h6, h7, fun q E G hp => ?_, fun E G hk => ?_⟩
  · have := gKq_X (h7.2.2.2.2.2 E G hp)
    rw [if_pos q] at this
    exact this
  · by_cases q : e < 5
    · rw [if_pos q] at hk
      exact hk.elim
    · rw [if_neg q] at hk
      exact hk
theorem snd_virtual_own (hF : gFactsA) {idx n a b c d e : Nat} (he : e < 5 ∨ e = 10 ∨ e = 11) (hE : gEnt m pc (.invokevirtual idx, n, a, b, c, d, e)) (h0 : gRcv gCls e a b st G)
    (h : gInv (gCx (SND z ro cA D roArr)) (fun rc rs pc ls st G => SND z ro cA D roArr m rc rs pc ls st G Q) Q gStr (gHh m) rc rs pc ls st G n a b c d e) : SND z ro cA D roArr m rc rs pc ls st G Q := by
  obtain ⟨hd, hn⟩ := gChk_dec hE.1
  obtain ⟨hlk, w1, w2, w3, w4, w5, w6⟩ : Cond.methodLink (gY m).cls idx (gY a) ∈ gw ∧ gMwV a := by
    have hl := hE.2
    rcases he with he | rfl | rfl
    · match e, he, hl with
      | 0, _, hl => exact hl
      | 1, _, hl => exact hl
      | 2, _, hl => exact hl
      | 3, _, hl => exact hl
      | 4, _, hl => exact hl
    · exact hl
    · exact hl
  have hk := hE.1
  have he20 : e < 20 := by omega
  simp only [gChk, Bool.and_eq_true, decide_eq_true_eq, beq_iff_eq] at hk
  have hk := hk.2
  rw [show Nat.ble 20 e = false by (cases q : Nat.ble 20 e with | false => rfl | true => exact absurd (Nat.le_of_ble_eq_true q) (by omega))] at hk
  simp only [cond_false, Bool.and_eq_true] at hk
  obtain ⟨⟨hk, hb0⟩, hbM⟩ := hk
  have hb0 : 0 < b := Nat.le_of_ble_eq_true hb0
  have hbM : b ≤ gMaxL a := Nat.le_of_ble_eq_true hbM
  obtain ⟨c1, c2, c3, c4, c5, c6, c7, c8, -⟩ := gCk_el hk
  obtain ⟨i3, i4, i5, q1, q2, P, KX, i1, i2, i6, i7, i8, i9⟩ := gOwn_el he hn h
  obtain ⟨X, o, r0, fs, x1, x2, x3, x4, x5, x6⟩ := gRcv_el he20 hb0 i4 h0
  rw [x3] at i5 i6
  rw [x4] at i3 i7
  have has : (X ++ [Value.ref o]).reverse = .ref o :: X.reverse := by simp
  rw [has] at i5 i6
  have hlen : (Value.ref o :: X.reverse).length ≤ gMaxL a := by simp [x1]; omega
  intro p l e0 R s mid args below meth c0 H locs cells slots lsr hC hr hl hS hc hs
  have hstk : st.map (gv z ro) = ((X.reverse).map (gv z ro)).reverse ++ .ref (gAd z ro o) :: r0.map (gv z ro) := by
    rw [x2, List.map_append, List.map_reverse, List.reverse_reverse]
    rfl
  have hcw : CallW R s args (gY m).cls (gY a).cls idx (gY a) (gCode a) (gMaxL a) (gRet a) (Cond.code (gY a) (gCode a) (gMaxL a) (gRet a) :: gw) (gRm a q1 q2) q1 q2 (b - 1) :=
    cwV (b - 1) hC.hts (gGood_mem hlk w1 w2 w3 (gCode_mem w4)) rfl rfl rfl ⟨rfl, c5, c6, c7⟩ ⟨Nat.le_trans c1 hC.fr, Nat.le_trans c2 hC.lo⟩
  have hpre : PreV s H (gY a).cls (gAd z ro o) (gPc z ro cA D roArr G (.ref o :: X.reverse)) ((X.reverse).map (gv z ro)) := ⟨gPc.blind, hr.recv hF hC x5 x6, fun U hU hW => snd_own_pre hC hr hS U hU hW⟩
  have hcat : (List.map (fun v => v.category) (r0.map (gv z ro))).sum ≤ 8 := by rw [gCat_sum]; exact i3
  have hroom : cells + q1 ≤ R.cells ∧ slots + q2 ≤ R.slots := ⟨by omega, by omega⟩
  have hasl : ((X.reverse).map (gv z ro)).length = b - 1 := by simp [x1]
  refine snd_after (rest := r0) (hh := gHh m) (av := (Value.ref (gAd z ro o) :: (X.reverse).map (gv z ro)).toArray) hC hl hS hc hs i1 i2 i7 ?_
  by_cases q : e < 5
  · exact Or.inl (va_runV ⟨hC.1, hC.2.1, hC.ml, hC.own, hC.hts⟩ (vx_toMet (snd_met hC.tr c8 hlen i5 w5 i6) (gXC_no (i8 q))) hcw hpre rfl hasl hl.1 hstk (lv_room hcat) hd hroom)
  · exact Or.inr ⟨vx_runV ⟨hC.1, hC.2.1, hC.ml, hC.own, hC.hts⟩ (snd_met hC.tr c8 hlen i5 w5 i6) hcw hpre rfl hasl hl.1 hstk (lv_room hcat) hd hroom, hF.1.2.1 m, i9⟩
theorem snd_static_own (hF : gFactsA) {idx n a b c d e : Nat} (he : e < 5 ∨ e = 10 ∨ e = 11) (hE : gEnt m pc (.invokestatic idx, n, a, b, c, d, e))
    (h : gInv (gCx (SND z ro cA D roArr)) (fun rc rs pc ls st G => SND z ro cA D roArr m rc rs pc ls st G Q) Q gStr (gHh m) rc rs pc ls st G n a b c d e) : SND z ro cA D roArr m rc rs pc ls st G Q := by
  obtain ⟨hd, hn⟩ := gChk_dec hE.1
  obtain ⟨hlk, ⟨w1, w2, w3⟩, wX⟩ : Cond.methodLink (gY m).cls idx (gY a) ∈ gw ∧ gMwS a ∧ (¬ e < 5 → gHT a = []) := by
    have hl := hE.2
    rcases he with he | rfl | rfl
    · match e, he, hl with
      | 0, he, hl => exact ⟨hl.1, hl.2, fun q => absurd he q⟩
      | 1, he, hl => exact ⟨hl.1, hl.2, fun q => absurd he q⟩
      | 2, he, hl => exact ⟨hl.1, hl.2, fun q => absurd he q⟩
      | 3, he, hl => exact ⟨hl.1, hl.2, fun q => absurd he q⟩
      | 4, he, hl => exact ⟨hl.1, hl.2, fun q => absurd he q⟩
    · exact ⟨hl.1, hl.2.1, fun _ => hl.2.2⟩
    · exact ⟨hl.1, hl.2.1, fun _ => hl.2.2⟩
  have hk := hE.1
  simp only [gChk, Bool.and_eq_true, decide_eq_true_eq, beq_iff_eq] at hk
  have hk := hk.2
  rw [show Nat.ble 20 e = false by (cases q : Nat.ble 20 e with | false => rfl | true => exact absurd (Nat.le_of_ble_eq_true q) (by omega))] at hk
  simp only [cond_false, Bool.and_eq_true] at hk
  obtain ⟨c1, c2, c3, c4, c5, c6, c7, c8, c9⟩ := gCk_el hk
  obtain ⟨i3, i4, i5, q1, q2, P, KX, i1, i2, i6, i7, i8, i9⟩ := gOwn_el he hn h
  have hlen : ((st.take b).reverse).length ≤ gMaxL a := by rw [List.length_reverse, i4]; exact c9
  intro p l e0 R s mid args below meth c0 H locs cells slots lsr hC hr hl hS hc hs
  have hstk : st.map (gv z ro) = (((st.take b).reverse).map (gv z ro)).reverse ++ (st.drop b).map (gv z ro) := by
    rw [List.map_reverse, List.reverse_reverse, ← List.map_append, List.take_append_drop]
  have hpre : PreS s H (gPc z ro cA D roArr G (st.take b).reverse) (((st.take b).reverse).map (gv z ro)) := ⟨gPc.blind, fun U hU hW => snd_own_pre hC hr hS U hU hW⟩
  have hcat : (List.map (fun v => v.category) ((st.drop b).map (gv z ro))).sum ≤ 8 := by rw [gCat_sum]; exact i3
  have hroom : cells + q1 ≤ R.cells ∧ slots + q2 ≤ R.slots := ⟨by omega, by omega⟩
  have hasl : (((st.take b).reverse).map (gv z ro)).length = b := by rw [List.length_map, List.length_reverse, i4]
  have hR2 : (gRm a q1 q2).frames + 1 ≤ R.frames ∧ 8 + (gMaxL a + 11) + (gRm a q1 q2).locals ≤ R.locals := ⟨Nat.le_trans c1 hC.fr, Nat.le_trans c2 hC.lo⟩
  refine snd_after (rest := st.drop b) (hh := gHh m) (av := (((st.take b).reverse).map (gv z ro)).toArray) hC hl hS hc hs i1 i2 i7 ?_
  rcases w3 with ⟨v1, v2, v3⟩ | v3
  · have hcw : CallB R s args (gY m).cls idx (gY a) (gCode a) (gMaxL a) (gRet a) (Cond.code (gY a) (gCode a) (gMaxL a) (gRet a) :: gw) (gRm a q1 q2) q1 q2 b ∧ (Cond.static (gY a)).before args s = true :=
      ⟨callB_of b hC.hts (gGood (gCode_mem v3)) rfl rfl rfl (hC.hts _ w2) (hC.hts _ hlk) ⟨c5, c6, c7⟩ hR2, hC.hts _ w1⟩
    by_cases q : e < 5
    · exact Or.inl (va_runS ⟨hC.1, hC.2.1, hC.ml, hC.own, hC.hts⟩ (vx_toMet (snd_met hC.tr c8 hlen i5 v1 i6) (gXC_no (i8 q))) hcw hpre rfl hasl hl.1 hstk (lv_room hcat) hd hroom)
    · exact Or.inr ⟨vx_runS ⟨hC.1, hC.2.1, hC.ml, hC.own, hC.hts⟩ (snd_met hC.tr c8 hlen i5 v1 i6) hcw hpre rfl hasl hl.1 hstk (lv_room hcat) hd hroom, hF.1.2.1 m, i9⟩
  · have hcw : vx_CSW R s args (gY m).cls idx (gY a) (gCode a) (gMaxL a) (gRet a) (gHT a) (Cond.codeWith (gY a) (gCode a) (gMaxL a) (gRet a) (gHT a) :: gw) (gRm a q1 q2) q1 q2 b :=
      vx_cwSW b hC.hts (gGood_memS hlk w1 w2 (gCode_mem v3)) rfl rfl rfl ⟨c5, c6, c7⟩ hR2
    by_cases q : e < 5
    · exact Or.inl (vx_runSW ⟨hC.1, hC.2.1, hC.ml, hC.own, hC.hts⟩ (vx_toMet (snd_metW hC.tr c8 hlen i5 i6) (gXC_no (i8 q))) hcw hpre rfl hasl hl.1 hstk (lv_room hcat) hd hroom)
    · exact Or.inr ⟨vx_runSX ⟨hC.1, hC.2.1, hC.ml, hC.own, hC.hts⟩ (snd_metW hC.tr c8 hlen i5 i6) hcw hpre rfl hasl hl.1 hstk (lv_room hcat) hd hroom, hF.1.2.1 m, i9⟩
theorem snd_special_own (hF : gFactsA) {idx n a b c d : Nat} (hE : gEnt m pc (.invokespecial idx, n, a, b, c, d, 1)) (h0 : gRcv gCls 1 a b st G)
    (h : gInv (gCx (SND z ro cA D roArr)) (fun rc rs pc ls st G => SND z ro cA D roArr m rc rs pc ls st G Q) Q gStr (gHh m) rc rs pc ls st G n a b c d 1) : SND z ro cA D roArr m rc rs pc ls st G Q := by
  obtain ⟨hd, hn⟩ := gChk_dec hE.1
  obtain ⟨hlk, w1, w2, w3, w4, w5, w6, w7⟩ : (Cond.methodLink (gY m).cls idx (gY a) ∈ gw ∨ Cond.methodLinkNest (gY m).cls idx (gY a) "TrunkDuel" ∈ gnw) ∧ gMwI a := hE.2
  have hk := hE.1
  simp only [gChk, Bool.and_eq_true, decide_eq_true_eq, beq_iff_eq] at hk
  have hk := hk.2
  rw [show Nat.ble 20 1 = false from rfl] at hk
  simp only [cond_false, Bool.and_eq_true] at hk
  obtain ⟨⟨hk, hb0⟩, hbM⟩ := hk
  have hb0 : 0 < b := Nat.le_of_ble_eq_true hb0
  have hbM : b ≤ gMaxL a := Nat.le_of_ble_eq_true hbM
  obtain ⟨c1, c2, c3, c4, c5, c6, c7, c8, -⟩ := gCk_el hk
  obtain ⟨i3, i4, i5, q1, q2, P, KX, i1, i2, i6, i7, i8, i9⟩ := gOwn_el (Or.inl (by decide)) hn h
  obtain ⟨X, o, r0, fs, x1, x2, x3, x4, x5, x6⟩ := gRcv_el (by decide) hb0 i4 h0
  rw [x3] at i5 i6
  rw [x4] at i3 i7
  have has : (X ++ [Value.ref o]).reverse = .ref o :: X.reverse := by simp
  rw [has] at i5 i6
  have hlen : (Value.ref o :: X.reverse).length ≤ gMaxL a := by simp [x1]; omega
  intro p l e0 R s mid args below meth c0 H locs cells slots lsr hC hr hl hS hc hs
  have hstk : st.map (gv z ro) = ((X.reverse).map (gv z ro)).reverse ++ .ref (gAd z ro o) :: r0.map (gv z ro) := by
    rw [x2, List.map_append, List.map_reverse, List.reverse_reverse]
    rfl
  have hpre : PreS s H (gPc z ro cA D roArr G (.ref o :: X.reverse)) (.ref (gAd z ro o) :: (X.reverse).map (gv z ro)) := ⟨gPc.blind, fun U hU hW => snd_own_pre hC hr hS U hU hW⟩
  have hcat : (List.map (fun v => v.category) (r0.map (gv z ro))).sum ≤ 8 := by rw [gCat_sum]; exact i3
  have hroom : cells + q1 ≤ R.cells ∧ slots + q2 ≤ R.slots := ⟨by omega, by omega⟩
  have hasl : ((X.reverse).map (gv z ro)).length = b - 1 := by simp [x1]
  have hR2 : (gRm a q1 q2).frames + 1 ≤ R.frames ∧ 8 + (gMaxL a + 11) + (gRm a q1 q2).locals ≤ R.locals := ⟨Nat.le_trans c1 hC.fr, Nat.le_trans c2 hC.lo⟩
  have hmet := vx_toMet (snd_met (z := z) (ro := ro) (cA := cA) (D := D) (roArr := roArr) hC.tr c8 hlen i5 w4 i6) (gXC_no (i8 (by decide)))
  rw [w7] at hmet
  refine snd_after (rest := r0) (hh := gHh m) (av := (Value.ref (gAd z ro o) :: (X.reverse).map (gv z ro)).toArray) hC hl hS hc hs i1 i2 i7 (Or.inl ?_)
  rcases hlk with hlk | hlk
  · exact va_runI ⟨hC.1, hC.2.1, hC.ml, hC.own, hC.hts⟩ hmet (cwI (b - 1) hC.hts (gGood (gCode_mem w3)) rfl rfl rfl (hC.hts _ w2) (hC.hts _ hlk) (hC.hts _ w1) w6 ⟨c5, c6, c7⟩ hR2) hpre rfl hasl hl.1 hstk (lv_room hcat) hd hroom
  · exact va_runIN ⟨hC.1, hC.2.1, hC.ml, hC.own, hC.hts⟩ hmet ⟨va_cnB (b - 1) hC.hts (gGood (gCode_mem w3)) rfl rfl rfl (hC.env.2.2.1 _ hlk) (hC.hts _ w2) ⟨c5, c6, c7⟩ hR2, w6, hC.hts _ w1⟩ hpre rfl hasl hl.1 hstk (lv_room hcat) hd hroom
end Snd6
end
section
/-! ===== soundness: primitives; the theorem ===== -/
theorem gTexts_small : ∀ tx ∈ gTexts, tx.length < 2 ^ 31 ∧ ∀ ch ∈ tx, ch < 128 := by decide +kernel
section Snd7
variable {z : Nat} {ro : Nat → Nat} {cA : FieldType → ClassId} {D : va_G} {roArr : Nat → Option (Nat × (Nat → Int32))}
variable {m rc rs pc : Nat} {ls : GL} {st : List Value} {G : GH} {Q : GQ}
theorem gBle_el {c : Bool} {A : Prop} (h : bif c then A else False) : c = true ∧ A := gBif_el h
theorem gCat_le {r : List Value} (h : Nat.ble (gCat r) 8 = true) : ((r.map (gv z ro)).map fun v => v.category).sum ≤ 8 := by rw [gCat_sum]; exact Nat.le_of_ble_eq_true h
theorem gPrim_chk {idx n a b c d e : Nat} (he : 20 ≤ e) (hE : gEnt m pc (.invokestatic idx, n, a, b, c, d, e)) : 2 ≤ gFrames m ∧ 8 + (nativeFrameWords "java/lang/System" "arraycopy" 5 + 11) ≤ gLocs m ∧ 21 ≤ gLocs m := by
  have hk := hE.1
  simp only [gChk, Bool.and_eq_true, decide_eq_true_eq, beq_iff_eq] at hk
  have hk := hk.2
  rw [show Nat.ble 20 e = true from Nat.ble_eq_true_of_le he] at hk
  simp only [cond_true, Bool.and_eq_true, decide_eq_true_eq] at hk
  exact ⟨hk.1.1, hk.1.2, hk.2⟩
theorem snd_min (hF : gFactsA) {idx n a b c d : Nat} {x y : Int32} {r : List Value} (hE : gEnt m pc (.invokestatic idx, n, a, b, c, d, 20)) (hst : st = .int y :: .int x :: r) (h8 : Nat.ble (gCat r) 8 = true) (h : SND z ro cA D roArr m rc rs n ls (.int (if y < x then y else x) :: r) G Q) : SND z ro cA D roArr m rc rs pc ls st G Q := by
  obtain ⟨hd, hn⟩ := gChk_dec hE.1
  subst hn
  subst hst
  obtain ⟨k1, k2, k3⟩ := gPrim_chk (by decide) hE
  obtain ⟨f1, f2, f3, f4, f5, f6, f7⟩ := hF.1.2.2.2.1
  have hl2 : Cond.methodLink (gY m).cls idx Lib.Math.min.name ∈ gw := hE.2
  intro p l e R s mid args below meth c H locs cells slots lsr hC hr hl hS hc hs
  have h9 := gCat_le (z := z) (ro := ro) h8
  have g1 := hC.fr
  have g2 := hC.lo
  exact va_mmin hC.1 hC.2.1 (hC.ml.trans hl.1.symm) hC.own (hC.hts _ hl2) (hC.hts _ f1) (hC.hts _ f4) (hC.hts _ f5) (by omega) (by omega) (by omega) (by omega) hd (h _ _ _ _ _ _ _ _ _ _ _ _ _ _ _ hC hr hl hS hc hs)
theorem snd_max (hF : gFactsA) {idx n a b c d : Nat} {x y : Int32} {r : List Value} (hE : gEnt m pc (.invokestatic idx, n, a, b, c, d, 21)) (hst : st = .int y :: .int x :: r) (h8 : Nat.ble (gCat r) 8 = true) (h : SND z ro cA D roArr m rc rs n ls (.int (if x < y then y else x) :: r) G Q) : SND z ro cA D roArr m rc rs pc ls st G Q := by
  obtain ⟨hd, hn⟩ := gChk_dec hE.1
  subst hn
  subst hst
  obtain ⟨k1, k2, k3⟩ := gPrim_chk (by decide) hE
  obtain ⟨f1, f2, f3, f4, f5, f6, f7⟩ := hF.1.2.2.2.1
  have hl2 : Cond.methodLink (gY m).cls idx Lib.Math.max.name ∈ gw := hE.2
  intro p l e R s mid args below meth c H locs cells slots lsr hC hr hl hS hc hs
  have h9 := gCat_le (z := z) (ro := ro) h8
  have g1 := hC.fr
  have g2 := hC.lo
  exact va_mmax hC.1 hC.2.1 (hC.ml.trans hl.1.symm) hC.own (hC.hts _ hl2) (hC.hts _ f2) (hC.hts _ f4) (hC.hts _ f6) (by omega) (by omega) (by omega) (by omega) hd (h _ _ _ _ _ _ _ _ _ _ _ _ _ _ _ hC hr hl hS hc hs)
theorem snd_abs (hF : gFactsA) {idx n a b c d : Nat} {x : Int32} {r : List Value} (hE : gEnt m pc (.invokestatic idx, n, a, b, c, d, 22)) (hst : st = .int x :: r) (h8 : Nat.ble (gCat r) 8 = true) (h : SND z ro cA D roArr m rc rs n ls (.int (if 0 ≤ x then x else 0 - x) :: r) G Q) : SND z ro cA D roArr m rc rs pc ls st G Q := by
  obtain ⟨hd, hn⟩ := gChk_dec hE.1
  subst hn
  subst hst
  obtain ⟨k1, k2, k3⟩ := gPrim_chk (by decide) hE
  obtain ⟨f1, f2, f3, f4, f5, f6, f7⟩ := hF.1.2.2.2.1
  have hl2 : Cond.methodLink (gY m).cls idx Lib.Math.abs.name ∈ gw := hE.2
  intro p l e R s mid args below meth c H locs cells slots lsr hC hr hl hS hc hs
  have h9 := gCat_le (z := z) (ro := ro) h8
  have g1 := hC.fr
  have g2 := hC.lo
  exact va_mabs hC.1 hC.2.1 (hC.ml.trans hl.1.symm) hC.own (hC.hts _ hl2) (hC.hts _ f3) (hC.hts _ f4) (hC.hts _ f7) (by omega) (by omega) (by omega) (by omega) hd (h _ _ _ _ _ _ _ _ _ _ _ _ _ _ _ hC hr hl hS hc hs)
theorem snd_acopy (hF : gFactsA) {idx n a b c d : Nat} {k dp sp : Int32} {q o : Nat} {r : List Value} (hE : gEnt m pc (.invokestatic idx, n, a, b, c, d, 25)) (hst : st = .int k :: .int dp :: .ref q :: .int sp :: .ref o :: r) (h8 : Nat.ble (gCat r) 8 = true)
    (h : q < gRB ∧ o < gRB ∧ ∃ ty m0 m1 f g ka da sa, G.2 o = some (.inr (ty, m0, .inl f)) ∧ G.2 q = some (.inr (ty, m1, .inl g)) ∧ (ty = .int ∨ ty = .boolean ∧ ∀ i, f i = nI 0 ∨ f i = nI 1) ∧ k = nI ka ∧ dp = nI da ∧ sp = nI sa ∧ ka < 2 ^ 31 ∧ da < 2 ^ 31 ∧ sa < 2 ^ 31 ∧ sa + ka ≤ m0 ∧ da + ka ≤ m1 ∧ SND z ro cA D roArr m rc rs n ls r (gU G q (.inr (ty, m1, .inl (va_cpy f g sa da ka)))) Q) : SND z ro cA D roArr m rc rs pc ls st G Q := by
  obtain ⟨hd, hn⟩ := gChk_dec hE.1
  subst hn
  subst hst
  obtain ⟨k1, k2, k3⟩ := gPrim_chk (by decide) hE
  obtain ⟨f1, f2, f3⟩ := hF.1.2.2.2.2.1
  have hl2 : Cond.methodLink (gY m).cls idx arraycopyName ∈ gw := hE.2
  obtain ⟨hq, ho, ty, m0, m1, f, g, ka, da, sa, e1, e2, e3, rfl, rfl, rfl, e7, e8, e9, e10, e11, h⟩ := h
  intro p l e R s mid args below meth c H locs cells slots lsr hC hr hl hS hc hs
  have h9 := gCat_le (z := z) (ro := ro) h8
  have g1 := hC.fr
  have g2 := hC.lo
  exact g_copy hC.1 hC.2.1 (hC.ml.trans hl.1.symm) hC.own (hC.hts _ hl2) (hC.hts _ f1) (hC.hts _ f2) (hC.hts _ f3) hC.K hr hS ho hq e1 e2 e3 e7 e8 e9 e10 e11 (by omega) (by omega) hd fun H1 locs1 hr1 hS1 => h _ _ _ _ _ _ _ _ _ _ _ _ _ _ _ hC hr1 hl hS1 hc hs
theorem snd_oinit (hF : gFactsA) {idx n a b c d o : Nat} {r : List Value} (hE : gEnt m pc (.invokespecial idx, n, a, b, c, d, 26)) (hst : st = .ref o :: r) (h8 : Nat.ble (gCat r) 8 = true) (h : SND z ro cA D roArr m rc rs n ls r G Q) : SND z ro cA D roArr m rc rs pc ls st G Q := by
  obtain ⟨hd, hn⟩ := gChk_dec hE.1
  subst hn
  subst hst
  have hk := hE.1
  simp only [gChk, Bool.and_eq_true, decide_eq_true_eq, beq_iff_eq] at hk
  have hk := hk.2
  rw [show Nat.ble 20 26 = true from rfl] at hk
  simp only [cond_true, Bool.and_eq_true, decide_eq_true_eq] at hk
  obtain ⟨f1, f2⟩ := hF.1.2.2.2.2.2.1
  have hl2 : Cond.methodLink (gY m).cls idx objectInit ∈ gw := hE.2
  intro p l e R s mid args below meth c H locs cells slots lsr hC hr hl hS hc hs
  have h9 := gCat_le (z := z) (ro := ro) h8
  have g1 := hC.fr
  have g2 := hC.lo
  refine W.objInit hC.1 hC.2.1 hC.own (hC.hts _ hl2) (hC.hts _ f1) (hC.hts _ f2) rfl (hl.1.trans hC.ml.symm) (a := gAd z ro o) (rest := r.map (gv z ro)) rfl hd (by omega) (by show 2 * 0 + _ + 12 ≤ _; omega) ?_
  exact h _ _ _ _ _ _ _ _ _ _ _ _ _ _ _ hC hr hl hS hc hs
theorem gStr_el {o : Nat} {tx : List Nat} (h : gStr o = some tx) : ∃ i, o = 100016 + i ∧ gTexts[i]? = some tx := by
  unfold gStr at h
  split at h
  · cases h
  · exact ⟨o - 100016, by omega, h⟩
theorem gStr_chk {idx n a b c d e : Nat} (he : 20 ≤ e) (hE : gEnt m pc (.invokevirtual idx, n, a, b, c, d, e)) : 6 ≤ gFrames m ∧ 160 ≤ gLocs m := by
  have hk := hE.1
  simp only [gChk, Bool.and_eq_true, decide_eq_true_eq, beq_iff_eq] at hk
  have hk := hk.2
  rw [show Nat.ble 20 e = true from Nat.ble_eq_true_of_le he] at hk
  simpa using hk
theorem snd_slen (hF : gFactsA) {idx n a b c d o : Nat} {r : List Value} {tx : List Nat} (hE : gEnt m pc (.invokevirtual idx, n, a, b, c, d, 23)) (hst : st = .ref o :: r) (h8 : Nat.ble (gCat r) 8 = true) (htx : gStr o = some tx) (h : SND z ro cA D roArr m rc rs n ls (.int (nI tx.length) :: r) G Q) : SND z ro cA D roArr m rc rs pc ls st G Q := by
  obtain ⟨hd, hn⟩ := gChk_dec hE.1
  subst hn
  subst hst
  obtain ⟨k1, k2⟩ := gStr_chk (by decide) hE
  obtain ⟨i, rfl, hi⟩ := gStr_el htx
  have hsm := (gTexts_small tx (List.mem_of_getElem? hi)).1
  have hl2 : Cond.methodLink (gY m).cls idx yJ0_length_8abf5 ∈ gw := hE.2
  obtain ⟨q1, q2, q3, q4, -⟩ := List.forall_mem_cons.mp hF.1.2.2.2.2.2.2 |>.imp id fun t => (List.forall_mem_cons.mp t).imp id fun t => (List.forall_mem_cons.mp t).imp id fun t => List.forall_mem_cons.mp t
  intro p l e R s mid args below meth c H locs cells slots lsr hC hr hl hS hc hs
  have h9 := gCat_le (z := z) (ro := ro) h8
  have g1 := hC.fr
  have g2 := hC.lo
  have hEH : gEnv z ro cA D roArr s H := hC.env.to (State.WarmedH.refl s) hS.2.1
  have hT := hEH.2.2.2.2.2.2.1 i tx hi
  have e1 : gAd z ro (100016 + i) = ro (100016 + i) := gAd_ro (by simp only [gRB]; omega)
  show W p l e R s mid args below meth c H locs cells slots _ (F0 mid pc lsr (.ref (gAd z ro (100016 + i)) :: r.map (gv z ro)))
  rw [e1]
  refine g_calln (va_runV (n := 0) (C := RJ0) (As := []) (rest := r.map (gv z ro)) ⟨hC.1, hC.2.1, hC.ml, hC.own, hC.hts⟩ (gm_length (z := z) (ro := ro) (cA := cA) (D := D) (roArr := roArr) l (ro (100016 + i)) tx hsm) (cwV 0 hC.hts (gGood_mem hl2 q1 q2 q3 (gCode_mem q4)) rfl rfl rfl (by decide +kernel) ⟨by show 2 + 1 ≤ _; omega, by show 8 + (1 + 11) + 40 ≤ _; omega⟩)
    ⟨fun a U g mk q => ⟨q.1, gEnv.blind q.2.1, q.2.2⟩, (by obtain ⟨v, hO, -⟩ := hT; obtain ⟨cell, h1, h2, h3, -⟩ := hO; exact ⟨cell, h1, h2, h3⟩), fun U hU hW => ⟨rfl, hEH.to hW (fun q _ _ => by rw [hU]), by
      obtain ⟨v, hO, hco, hva, hTt⟩ := hT
      rw [hU]
      exact ⟨v, hO.moved hW.alike, hco.moved hW.alike, hva.moved hW.alike, hTt.moved hW.alike⟩⟩⟩ rfl rfl hl.1 rfl (lv_room h9) hd ⟨by omega, by omega⟩) (fun x hx0 => ?_)
  subst hx0
  exact h _ _ _ _ _ _ _ _ _ _ _ _ _ _ _ hC hr hl hS hc hs
theorem snd_scharAt (hF : gFactsA) {idx n a b c d o k ch : Nat} {r : List Value} {tx : List Nat} (hE : gEnt m pc (.invokevirtual idx, n, a, b, c, d, 24)) (hst : st = .int (nI k) :: .ref o :: r) (h8 : Nat.ble (gCat r) 8 = true) (htx : gStr o = some tx) (hch : tx[k]? = some ch) (h : SND z ro cA D roArr m rc rs n ls (.int (nI ch) :: r) G Q) : SND z ro cA D roArr m rc rs pc ls st G Q := by
  obtain ⟨hd, hn⟩ := gChk_dec hE.1
  subst hn
  subst hst
  obtain ⟨k1, k2⟩ := gStr_chk (by decide) hE
  obtain ⟨i, rfl, hi⟩ := gStr_el htx
  obtain ⟨hsm, hsm2⟩ := gTexts_small tx (List.mem_of_getElem? hi)
  have hch2 := hsm2 ch (List.mem_of_getElem? hch)
  have hl2 : Cond.methodLink (gY m).cls idx yJ0_charAt_5068e ∈ gw := hE.2
  obtain ⟨q1, q2, q3, q4, q5, q6, q7, -⟩ := List.forall_mem_cons.mp hF.1.2.2.2.2.2.2 |>.imp id fun t => (List.forall_mem_cons.mp t).imp id fun t => (List.forall_mem_cons.mp t).imp id fun t => (List.forall_mem_cons.mp t).imp id fun t => (List.forall_mem_cons.mp t).imp id fun t => (List.forall_mem_cons.mp t).imp id fun t => List.forall_mem_cons.mp t
  intro p l e R s mid args below meth c H locs cells slots lsr hC hr hl hS hc hs
  have h9 := gCat_le (z := z) (ro := ro) h8
  have g1 := hC.fr
  have g2 := hC.lo
  have hEH : gEnv z ro cA D roArr s H := hC.env.to (State.WarmedH.refl s) hS.2.1
  have hT := hEH.2.2.2.2.2.2.1 i tx hi
  have e1 : gAd z ro (100016 + i) = ro (100016 + i) := gAd_ro (by simp only [gRB]; omega)
  show W p l e R s mid args below meth c H locs cells slots _ (F0 mid pc lsr (.int (nI k) :: .ref (gAd z ro (100016 + i)) :: r.map (gv z ro)))
  rw [e1]
  refine g_calln (va_runV (n := 1) (C := RJ0) (As := [.int (nI k)]) (rest := r.map (gv z ro)) ⟨hC.1, hC.2.1, hC.ml, hC.own, hC.hts⟩ (gm_charAt (z := z) (ro := ro) (cA := cA) (D := D) (roArr := roArr) l (ro (100016 + i)) k tx ch hch hch2 hsm) (cwV 1 hC.hts (gGood_mem hl2 q5 q6 q3 (gCode_mem q7)) rfl rfl rfl (by decide +kernel) ⟨by show 4 + 1 ≤ _; omega, by show 8 + (2 + 11) + 100 ≤ _; omega⟩)
    ⟨fun a U g mk q => ⟨q.1, gEnv.blind q.2.1, q.2.2⟩, (by obtain ⟨v, hO, -⟩ := hT; obtain ⟨cell, h1, h2, h3, -⟩ := hO; exact ⟨cell, h1, h2, h3⟩), fun U hU hW => ⟨rfl, hEH.to hW (fun q _ _ => by rw [hU]), by
      obtain ⟨v, hO, hco, hva, hTt⟩ := hT
      rw [hU]
      exact ⟨v, hO.moved hW.alike, hco.moved hW.alike, hva.moved hW.alike, hTt.moved hW.alike⟩⟩⟩ rfl rfl hl.1 rfl (lv_room h9) hd ⟨by omega, by omega⟩) (fun x hx0 => ?_)
  subst hx0
  exact h _ _ _ _ _ _ _ _ _ _ _ _ _ _ _ hC hr hl hS hc hs
theorem snd_dlen (hF : gFactsA) {idx n a b c d o k : Nat} {f : Nat → Int32} {r : List Value} (hE : gEnt m pc (.invokevirtual idx, n, a, b, c, d, 27)) (hst : st = .ref o :: r) (h8 : Nat.ble (gCat r) 8 = true) (ho : gRB ≤ o) (hG : G.2 o = some (.inr (.byte, k, .inl f))) (h : SND z ro cA D roArr m rc rs n ls (.int (nI k) :: r) G Q) : SND z ro cA D roArr m rc rs pc ls st G Q := by
  obtain ⟨hd, hn⟩ := gChk_dec hE.1
  subst hn
  subst hst
  obtain ⟨k1, k2⟩ := gStr_chk (by decide) hE
  have hl2 : Cond.methodLink (gY m).cls idx yJ0_length_8abf5 ∈ gw := hE.2
  obtain ⟨q1, q2, q3, q4, -⟩ := List.forall_mem_cons.mp hF.1.2.2.2.2.2.2 |>.imp id fun t => (List.forall_mem_cons.mp t).imp id fun t => (List.forall_mem_cons.mp t).imp id fun t => List.forall_mem_cons.mp t
  intro p l e R s mid args below meth c H locs cells slots lsr hC hr hl hS hc hs
  have h9 := gCat_le (z := z) (ro := ro) h8
  have g1 := hC.fr
  have g2 := hC.lo
  have hEH : gEnv z ro cA D roArr s H := hC.env.to (State.WarmedH.refl s) hS.2.1
  obtain ⟨q', hq, hgt⟩ : ∃ q', roArr o = some q' ∧ (Sum.inr (gRt o, q'.1, Sum.inl q'.2) : GC) = .inr (.byte, k, .inl f) := by
    obtain ⟨_, _, _, _, _, h4, _⟩ := hr
    have e1 := h4 o ho
    rw [hG] at e1
    cases hq : roArr o with
    | none => rw [hq] at e1; cases e1
    | some q' => rw [hq] at e1; exact ⟨q', rfl, (Option.some.inj e1).symm⟩
  have hdy : o = gDY := by
    by_cases e : o = gDY
    · exact e
    · rw [gRt, if_neg e] at hgt; cases hgt
  subst hdy
  obtain ⟨tx, t1, hsm, t3, t4, hT⟩ := (hEH.2.2.2.2.1 gDY q' ho hq).2 rfl
  cases hgt
  have e1 : gAd z ro gDY = ro gDY := gAd_ro ho
  show W p l e R s mid args below meth c H locs cells slots _ (F0 mid pc lsr (.ref (gAd z ro gDY) :: r.map (gv z ro)))
  rw [e1]
  refine g_calln (va_runV (n := 0) (C := RJ0) (As := []) (rest := r.map (gv z ro)) ⟨hC.1, hC.2.1, hC.ml, hC.own, hC.hts⟩ (gm_length (z := z) (ro := ro) (cA := cA) (D := D) (roArr := roArr) l (ro gDY) tx hsm) (cwV 0 hC.hts (gGood_mem hl2 q1 q2 q3 (gCode_mem q4)) rfl rfl rfl (by decide +kernel) ⟨by show 2 + 1 ≤ _; omega, by show 8 + (1 + 11) + 40 ≤ _; omega⟩)
    ⟨fun a U g mk q => ⟨q.1, gEnv.blind q.2.1, q.2.2⟩, (by obtain ⟨v, hO, -⟩ := hT; obtain ⟨cell, h1, h2, h3, -⟩ := hO; exact ⟨cell, h1, h2, h3⟩), fun U hU hW => ⟨rfl, hEH.to hW (fun q _ _ => by rw [hU]), by
      obtain ⟨v, hO, hco, hva, hTt⟩ := hT
      rw [hU]
      exact ⟨v, hO.moved hW.alike, hco.moved hW.alike, hva.moved hW.alike, hTt.moved hW.alike⟩⟩⟩ rfl rfl hl.1 rfl (lv_room h9) hd ⟨by omega, by omega⟩) (fun x hx0 => ?_)
  subst hx0
  rw [t1]
  exact h _ _ _ _ _ _ _ _ _ _ _ _ _ _ _ hC hr hl hS hc hs
theorem snd_dcharAt (hF : gFactsA) {idx n a b c d o kk : Nat} {f : Nat → Int32} {j : Int32} {r : List Value} (hE : gEnt m pc (.invokevirtual idx, n, a, b, c, d, 28)) (hst : st = .int j :: .ref o :: r) (h8 : Nat.ble (gCat r) 8 = true) (ho : gRB ≤ o) (hG : G.2 o = some (.inr (.byte, kk, .inl f))) (hin : vp_in j kk) (h : SND z ro cA D roArr m rc rs n ls (.int (f j.toNatClampNeg) :: r) G Q) : SND z ro cA D roArr m rc rs pc ls st G Q := by
  obtain ⟨hd, hn⟩ := gChk_dec hE.1
  subst hn
  subst hst
  obtain ⟨k1, k2⟩ := gStr_chk (by decide) hE
  have hl2 : Cond.methodLink (gY m).cls idx yJ0_charAt_5068e ∈ gw := hE.2
  obtain ⟨q1, q2, q3, q4, q5, q6, q7, -⟩ := List.forall_mem_cons.mp hF.1.2.2.2.2.2.2 |>.imp id fun t => (List.forall_mem_cons.mp t).imp id fun t => (List.forall_mem_cons.mp t).imp id fun t => (List.forall_mem_cons.mp t).imp id fun t => (List.forall_mem_cons.mp t).imp id fun t => (List.forall_mem_cons.mp t).imp id fun t => List.forall_mem_cons.mp t
  intro p l e R s mid args below meth c H locs cells slots lsr hC hr hl hS hc hs
  have h9 := gCat_le (z := z) (ro := ro) h8
  have g1 := hC.fr
  have g2 := hC.lo
  have hEH : gEnv z ro cA D roArr s H := hC.env.to (State.WarmedH.refl s) hS.2.1
  obtain ⟨q', hq, hgt⟩ : ∃ q', roArr o = some q' ∧ (Sum.inr (gRt o, q'.1, Sum.inl q'.2) : GC) = .inr (.byte, kk, .inl f) := by
    obtain ⟨_, _, _, _, _, h4, _⟩ := hr
    have e1 := h4 o ho
    rw [hG] at e1
    cases hq : roArr o with
    | none => rw [hq] at e1; cases e1
    | some q' => rw [hq] at e1; exact ⟨q', rfl, (Option.some.inj e1).symm⟩
  have hdy : o = gDY := by
    by_cases e : o = gDY
    · exact e
    · rw [gRt, if_neg e] at hgt; cases hgt
  subst hdy
  obtain ⟨tx, t1, hsm, t3, t4, hT⟩ := (hEH.2.2.2.2.1 gDY q' ho hq).2 rfl
  cases hgt
  obtain ⟨k, hkk, rfl⟩ : ∃ k, k < q'.1 ∧ j = nI k := by
    obtain ⟨j0, j1⟩ := vp_in_iff.mp hin
    refine ⟨j.toInt.toNat, by omega, Int32.toInt_inj.mp ?_⟩
    rw [nI_toInt (by omega)]
    omega
  have hch : tx[k]? = some (tx.getD k 0) := by
    rw [List.getD_eq_getElem?_getD, List.getElem?_eq_getElem (by omega)]
    rfl
  have hch2 := t3 _ (List.mem_of_getElem? hch)
  have hf := t4 k hkk
  have e1 : gAd z ro gDY = ro gDY := gAd_ro ho
  show W p l e R s mid args below meth c H locs cells slots _ (F0 mid pc lsr (.int (nI k) :: .ref (gAd z ro gDY) :: r.map (gv z ro)))
  rw [e1]
  refine g_calln (va_runV (n := 1) (C := RJ0) (As := [.int (nI k)]) (rest := r.map (gv z ro)) ⟨hC.1, hC.2.1, hC.ml, hC.own, hC.hts⟩ (gm_charAt (z := z) (ro := ro) (cA := cA) (D := D) (roArr := roArr) l (ro gDY) k tx _ hch hch2 hsm) (cwV 1 hC.hts (gGood_mem hl2 q5 q6 q3 (gCode_mem q7)) rfl rfl rfl (by decide +kernel) ⟨by show 4 + 1 ≤ _; omega, by show 8 + (2 + 11) + 100 ≤ _; omega⟩)
    ⟨fun a U g mk q => ⟨q.1, gEnv.blind q.2.1, q.2.2⟩, (by obtain ⟨v, hO, -⟩ := hT; obtain ⟨cell, h1, h2, h3, -⟩ := hO; exact ⟨cell, h1, h2, h3⟩), fun U hU hW => ⟨rfl, hEH.to hW (fun q _ _ => by rw [hU]), by
      obtain ⟨v, hO, hco, hva, hTt⟩ := hT
      rw [hU]
      exact ⟨v, hO.moved hW.alike, hco.moved hW.alike, hva.moved hW.alike, hTt.moved hW.alike⟩⟩⟩ rfl rfl hl.1 rfl (lv_room h9) hd ⟨by omega, by omega⟩) (fun x hx0 => ?_)
  subst hx0
  rw [← hf]
  rw [nI_clamp (by omega)] at h
  exact h _ _ _ _ _ _ _ _ _ _ _ _ _ _ _ hC hr hl hS hc hs
end Snd7
end
section
/-! ===== soundness: every step; WP is sound ===== -/
section Snd8
variable {z : Nat} {ro : Nat → Nat} {cA : FieldType → ClassId} {D : va_G} {roArr : Nat → Option (Nat × (Nat → Int32))}
variable {m rc rs pc : Nat} {ls : GL} {st : List Value} {G : GH} {Q : GQ}
theorem snd_less {rc0 rs0 : Nat} {ls0 : GL} (h1 : rc0 ≤ rc) (h2 : rs0 ≤ rs) (h3 : gSub ls0 ls) (h : SND z ro cA D roArr m rc0 rs0 pc ls0 st G Q) : SND z ro cA D roArr m rc rs pc ls st G Q :=
  fun _ _ _ _ _ _ _ _ _ _ _ _ _ _ _ hC hr hl hS hc hs => h _ _ _ _ _ _ _ _ _ _ _ _ _ _ _ hC hr (hl.sub h3.2) hS (by omega) (by omega)
theorem snd_static (hF : gFactsA) {idx n a b c d e : Nat} (hE : gEnt m pc (.invokestatic idx, n, a, b, c, d, e)) (h : gInv (gCx (SND z ro cA D roArr)) (fun rc rs pc ls st G => SND z ro cA D roArr m rc rs pc ls st G Q) Q gStr (gHh m) rc rs pc ls st G n a b c d e) : SND z ro cA D roArr m rc rs pc ls st G Q := by
  by_cases he : e < 5 ∨ e = 10 ∨ e = 11
  · exact snd_static_own hF he hE h
  · have hl := hE.2
    by_cases h20 : e = 20
    · subst h20
      simp only [gInv] at h
      split at h
      · obtain ⟨h8, h⟩ := gBif_el h
        exact snd_min hF hE rfl h8 h
      · exact h.elim
    by_cases h21 : e = 21
    · subst h21
      simp only [gInv] at h
      split at h
      · obtain ⟨h8, h⟩ := gBif_el h
        exact snd_max hF hE rfl h8 h
      · exact h.elim
    by_cases h22 : e = 22
    · subst h22
      simp only [gInv] at h
      split at h
      · obtain ⟨h8, h⟩ := gBif_el h
        exact snd_abs hF hE rfl h8 h
      · exact h.elim
    by_cases h25 : e = 25
    · subst h25
      simp only [gInv] at h
      split at h
      · obtain ⟨h8, h⟩ := gBif_el h
        exact snd_acopy hF hE rfl h8 h
      · exact h.elim
    exfalso
    unfold gLnk at hl
    dsimp only at hl
    split at hl <;> first | omega | exact hl
theorem snd_virtual (hF : gFactsA) {idx n a b c d e : Nat} (hE : gEnt m pc (.invokevirtual idx, n, a, b, c, d, e)) (h0 : gRcv gCls e a b st G) (h : gInv (gCx (SND z ro cA D roArr)) (fun rc rs pc ls st G => SND z ro cA D roArr m rc rs pc ls st G Q) Q gStr (gHh m) rc rs pc ls st G n a b c d e) : SND z ro cA D roArr m rc rs pc ls st G Q := by
  by_cases he : e < 5 ∨ e = 10 ∨ e = 11
  · exact snd_virtual_own hF he hE h0 h
  · have hl := hE.2
    by_cases h23 : e = 23
    · subst h23
      simp only [gInv] at h
      split at h
      · obtain ⟨h8, tx, h1, h⟩ := gBif_el h
        exact snd_slen hF hE rfl h8 h1 h
      · exact h.elim
    by_cases h24 : e = 24
    · subst h24
      simp only [gInv] at h
      split at h
      · obtain ⟨h8, tx, k, ch, h1, rfl, h3, h⟩ := gBif_el h
        exact snd_scharAt hF hE rfl h8 h1 h3 h
      · exact h.elim
    by_cases h27 : e = 27
    · subst h27
      simp only [gInv] at h
      split at h
      · obtain ⟨h8, h0, k, f, h1, h⟩ := gBif_el h
        exact snd_dlen hF hE rfl h8 h0 h1 h
      · exact h.elim
    by_cases h28 : e = 28
    · subst h28
      simp only [gInv] at h
      split at h
      · obtain ⟨h8, h0, k, f, h1, h2, h⟩ := gBif_el h
        exact snd_dcharAt hF hE rfl h8 h0 h1 h2 h
      · exact h.elim
    exfalso
    unfold gLnk at hl
    dsimp only at hl
    split at hl <;> first | omega | exact hl
theorem snd_special (hF : gFactsA) {idx n a b c d e : Nat} (hE : gEnt m pc (.invokespecial idx, n, a, b, c, d, e)) (h0 : gRcv gCls e a b st G) (h : gInv (gCx (SND z ro cA D roArr)) (fun rc rs pc ls st G => SND z ro cA D roArr m rc rs pc ls st G Q) Q gStr (gHh m) rc rs pc ls st G n a b c d e) : SND z ro cA D roArr m rc rs pc ls st G Q := by
  by_cases he : e = 1
  · subst he
    exact snd_special_own hF hE h0 h
  · have hl := hE.2
    by_cases h26 : e = 26
    · subst h26
      simp only [gInv] at h
      split at h
      · obtain ⟨h8, h⟩ := gBif_el h
        exact snd_oinit hF hE rfl h8 h
      · exact h.elim
    exfalso
    unfold gLnk at hl
    dsimp only at hl
    split at hl <;> first | omega | exact hl
set_option maxHeartbeats 4000000 in
theorem snd_step (hF : gFactsA) (h : gStep (SND z ro cA D roArr) m rc rs pc ls st G Q) : SND z ro cA D roArr m rc rs pc ls st G Q := by
  unfold gStep stepG at h
  cases hT : gLook (gTab m) pc with
  | none => rw [hT] at h; exact h.elim
  | some E =>
    obtain ⟨i, n, a, b, c, d, e⟩ := E
    rw [hT] at h
    have hE : gEnt m pc (i, n, a, b, c, d, e) := hF.1.1 m pc _ hT
    obtain ⟨hd, hn⟩ := gChk_dec hE.1
    cases i with
    | iconst v => subst hn; exact snd_lin h fun hC _ k => lv_iconst hC.1 hC.2.1 hd (by have q := hE.1; simp only [gChk, Bool.and_eq_true, decide_eq_true_eq, beq_iff_eq] at q; exact q.2) k
    | bipush v => subst hn; exact snd_lin h fun hC _ k => lv_bipush hC.1 hC.2.1 hd (by have q := hE.1; simp only [gChk, Bool.and_eq_true, decide_eq_true_eq, beq_iff_eq] at q; exact q.2) k
    | sipush v => subst hn; exact snd_lin h fun hC _ k => lv_sipush hC.1 hC.2.1 hd (by have q := hE.1; simp only [gChk, Bool.and_eq_true, decide_eq_true_eq, beq_iff_eq] at q; exact q.2) k
    | lconst k => subst hn; exact snd_lin h fun hC _ k => lv_lconst hC.1 hC.2.1 hd rfl k
    | fconst k =>
      subst hn
      have h0 : k = 0 := by have q := hE.1; simp only [gChk, Bool.and_eq_true, decide_eq_true_eq, beq_iff_eq] at q; exact q.2
      subst h0
      exact snd_lin h fun hC _ k => lv_fconst0 hC.1 hC.2.1 hd k
    | dconst k =>
      subst hn
      have h0 : k = 0 := by have q := hE.1; simp only [gChk, Bool.and_eq_true, decide_eq_true_eq, beq_iff_eq] at q; exact q.2
      subst h0
      exact snd_lin h fun hC _ k => lv_dconst0 hC.1 hC.2.1 hd k
    | ldc idx => exact snd_ldc hE h
    | ldc_w idx => exact snd_ldcw hE h
    | iload_n k => subst hn; obtain ⟨x, hx, h⟩ := gLdI_el h; exact snd_ld hx h fun hC hv k => lv_iload_n hC.1 hC.2.1 hd rfl hv k
    | iload k => subst hn; obtain ⟨x, hx, h⟩ := gLdI_el h; exact snd_ld hx h fun hC hv k => lv_iload hC.1 hC.2.1 hd hv k
    | aload_n k => subst hn; obtain ⟨x, hx, h⟩ := gLdA_el h; exact snd_ld hx h fun hC hv k => lv_aload_n hC.1 hC.2.1 hd rfl hv k
    | aload k => subst hn; obtain ⟨x, hx, h⟩ := gLdA_el h; exact snd_ld hx h fun hC hv k => lv_aload hC.1 hC.2.1 hd hv k
    | dload k => subst hn; obtain ⟨x, hx, h⟩ := gLdD_el h; exact snd_ld hx h fun hC hv k => lv_dload hC.1 hC.2.1 hd hv k
    | istore_n k =>
      subst hn
      dsimp only at h
      split at h
      · next x r => exact snd_st h fun hC hl kk => lv_istore_n hC.1 hC.2.1 hd rfl hl (by have q := hE.1; simp only [gChk, Bool.and_eq_true, decide_eq_true_eq, beq_iff_eq] at q; exact q.2) rfl fun lsr' hl' => kk lsr' (gLoc.st1 (x := .int x) hl')
      · exact h.elim
    | istore k =>
      subst hn
      dsimp only at h
      split at h
      · next x r => exact snd_st h fun hC hl kk => lv_istore hC.1 hC.2.1 hd hl (by have q := hE.1; simp only [gChk, Bool.and_eq_true, decide_eq_true_eq, beq_iff_eq] at q; exact q.2) rfl fun lsr' hl' => kk lsr' (gLoc.st1 (x := .int x) hl')
      · exact h.elim
    | astore_n k =>
      subst hn
      dsimp only at h
      split at h
      · next x r => exact snd_st h fun hC hl kk => lv_astore_n hC.1 hC.2.1 hd rfl hl (by have q := hE.1; simp only [gChk, Bool.and_eq_true, decide_eq_true_eq, beq_iff_eq] at q; exact q.2) rfl fun lsr' hl' => kk lsr' (gLoc.st1 (x := .ref x) hl')
      · exact h.elim
    | astore k =>
      subst hn
      dsimp only at h
      split at h
      · next x r => exact snd_st h fun hC hl kk => lv_astore hC.1 hC.2.1 hd hl (by have q := hE.1; simp only [gChk, Bool.and_eq_true, decide_eq_true_eq, beq_iff_eq] at q; exact q.2) rfl fun lsr' hl' => kk lsr' (gLoc.st1 (x := .ref x) hl')
      · exact h.elim
    | dstore k =>
      subst hn
      dsimp only at h
      split at h
      · next x r => exact snd_st h fun hC hl kk => lv_dstore hC.1 hC.2.1 hd hl (by have q := hE.1; simp only [gChk, Bool.and_eq_true, decide_eq_true_eq, beq_iff_eq] at q; exact q.2) rfl fun lsr' hl' => kk lsr' (gLoc.st2 (x := .double x) hl')
      · exact h.elim
    | iinc k v => exact snd_iinc hE h
    | iadd =>
      dsimp only at h
      split at h
      · exact snd_arith (by simp) hE rfl h
      · exact h.elim
    | isub =>
      dsimp only at h
      split at h
      · exact snd_arith (by simp) hE rfl h
      · exact h.elim
    | imul =>
      dsimp only at h
      split at h
      · exact snd_arith (by simp) hE rfl h
      · exact h.elim
    | iand =>
      dsimp only at h
      split at h
      · exact snd_arith (by simp) hE rfl h
      · exact h.elim
    | ior =>
      dsimp only at h
      split at h
      · exact snd_arith (by simp) hE rfl h
      · exact h.elim
    | ishl =>
      dsimp only at h
      split at h
      · exact snd_arith (by simp) hE rfl h
      · exact h.elim
    | ishr =>
      dsimp only at h
      split at h
      · exact snd_arith (by simp) hE rfl h
      · exact h.elim
    | iushr =>
      dsimp only at h
      split at h
      · exact snd_arith (by simp) hE rfl h
      · exact h.elim
    | idiv =>
      dsimp only at h
      split at h
      · exact snd_arith (by simp) hE rfl h
      · exact h.elim
    | irem =>
      dsimp only at h
      split at h
      · exact snd_arith (by simp) hE rfl h
      · exact h.elim
    | ineg =>
      subst hn
      dsimp only at h
      split at h
      · exact snd_lin h fun hC _ k => lv_ineg hC.1 hC.2.1 hd k
      · exact h.elim
    | i2l =>
      subst hn
      dsimp only at h
      split at h
      · exact snd_lin h fun hC _ k => lv_i2l hC.1 hC.2.1 hd rfl k
      · exact h.elim
    | i2d =>
      subst hn
      dsimp only at h
      split at h
      · exact snd_lin h fun hC _ k => lv_i2d hC.1 hC.2.1 hd k
      · exact h.elim
    | i2f =>
      subst hn
      dsimp only at h
      split at h
      · exact snd_lin h fun hC _ k => lv_i2f hC.1 hC.2.1 hd k
      · exact h.elim
    | f2d =>
      subst hn
      dsimp only at h
      split at h
      · exact snd_lin h.2 fun hC _ k => lv_f2d hC.1 hC.2.1 hd h.1 k
      · exact h.elim
    | ddiv =>
      subst hn
      dsimp only at h
      split at h
      · exact snd_lin h.2 fun hC _ k => lv_ddiv hC.1 hC.2.1 hd h.1 k
      · exact h.elim
    | fdiv =>
      subst hn
      dsimp only at h
      split at h
      · exact snd_lin h.2 fun hC _ k => lv_fdiv hC.1 hC.2.1 hd h.1 k
      · exact h.elim
    | lcmp =>
      subst hn
      dsimp only at h
      split at h
      · exact snd_lin h fun hC _ k => W.lcmp hC.1 hC.2.1 hd k
      · exact h.elim
    | dcmp op =>
      subst hn
      dsimp only at h
      split at h
      · exact snd_lin h fun hC _ k => lv_dcmp hC.1 hC.2.1 hd k
      · exact h.elim
    | pop =>
      subst hn
      dsimp only at h
      split at h
      · exact snd_lin h fun hC _ k => lv_pop hC.1 hC.2.1 hd rfl k
      · exact snd_lin h fun hC _ k => lv_pop hC.1 hC.2.1 hd rfl k
      · exact h.elim
    | dup =>
      subst hn
      dsimp only at h
      split at h
      · exact snd_lin h fun hC _ k => lv_dup hC.1 hC.2.1 hd rfl k
      · exact snd_lin h fun hC _ k => lv_dup hC.1 hC.2.1 hd rfl k
      · exact h.elim
    | dup2 =>
      subst hn
      dsimp only at h
      split at h
      · exact snd_lin h fun hC _ k => lv_dup2_11 hC.1 hC.2.1 hd rfl rfl k
      · exact h.elim
    | ifCond cd o =>
      dsimp only at h
      split at h
      · exact snd_if hE rfl h
      · exact h.elim
    | if_icmp cd o =>
      dsimp only at h
      split at h
      · exact snd_icmp hE rfl h
      · exact h.elim
    | goto o => exact snd_lin h fun hC _ k => lv_goto hC.1 hC.2.1 hd (by have q := hE.1; simp only [gChk, Bool.and_eq_true, decide_eq_true_eq, beq_iff_eq] at q; exact q.2) k
    | tableswitch df lo hi os =>
      dsimp only at h
      split at h
      · exact snd_switch hE rfl h
      · exact h.elim
    | getfield idx =>
      dsimp only at h
      split at h
      · split at h
        · obtain ⟨fs, x, h1, h2, h⟩ := h
          exact snd_getfield hF.1 hE rfl h1 h2 h
        · obtain ⟨fs, x, h1, h2, h⟩ := h
          exact snd_getfield hF.1 hE rfl h1 h2 h
      · exact h.elim
    | putfield idx =>
      dsimp only at h
      split at h
      · obtain ⟨h0, fs, h1, h2, h⟩ := h
        exact snd_putfield hF.1 hE rfl h0 h1 h2 h
      · exact h.elim
    | getstatic idx => exact snd_getstatic hE h
    | iaload =>
      dsimp only at h
      split at h
      · obtain ⟨k, f, h1, h2, h⟩ := h
        exact snd_iaload hE rfl h1 h2 h
      · exact h.elim
    | baload =>
      dsimp only at h
      split at h
      · obtain ⟨h0, k, f, h1, h2, h⟩ := h
        exact snd_baload hE rfl h0 h1 h2 h
      · exact h.elim
    | laload =>
      dsimp only at h
      split at h
      · obtain ⟨h0, k, f, h1, h2, h⟩ := h
        exact snd_laload hE rfl h0 h1 h2 h
      · exact h.elim
    | aaload =>
      dsimp only at h
      split at h
      · obtain ⟨h0, k, f, y, h1, h2, h3, h⟩ := h
        exact snd_aaload hE rfl h0 h1 h2 h3 h
      · exact h.elim
    | iastore =>
      dsimp only at h
      split at h
      · obtain ⟨h0, k, f, h1, h2, h⟩ := h
        exact snd_iastore hE rfl h0 h1 h2 h
      · exact h.elim
    | bastore =>
      dsimp only at h
      split at h
      · obtain ⟨h0, h00, k, f, h1, h2, h⟩ := h
        exact snd_bastore hE rfl h0 h00 h1 h2 h
      · exact h.elim
    | lastore =>
      dsimp only at h
      split at h
      · obtain ⟨h0, k, f, h1, h2, h⟩ := h
        exact snd_lastore hE rfl h0 h1 h2 h
      · exact h.elim
    | aastore =>
      dsimp only at h
      split at h
      · obtain ⟨h0, h00, k, f, fs, h1, h2, h3, h⟩ := h
        exact snd_aastore hE rfl h0 h00 h1 h2 h3 h
      · exact h.elim
    | arraylength =>
      dsimp only at h
      split at h
      · obtain ⟨k, f, h1, h2, h⟩ := h
        exact snd_alen hE rfl h1 h
      · exact h.elim
    | newarray ty =>
      dsimp only at h
      split at h
      · obtain ⟨h1, h2, h3, k, rfl, h5, h6, h⟩ := h
        exact snd_newarray hE rfl h1 h2 h3 h5 h6 h
      · exact h.elim
    | anewarray idx =>
      dsimp only at h
      split at h
      · obtain ⟨h1, h2, h3, k, rfl, h5, h6, h⟩ := h
        exact snd_anewarray hE rfl h1 h2 h3 h5 h6 h
      · exact h.elim
    | new idx =>
      cases e with
      | zero =>
        obtain ⟨h1, h2, h3, h4, h⟩ := h
        exact snd_new hF.1 hE h1 h2 h3 h4 h
      | succ e =>
        obtain ⟨h1, h2, h3⟩ := h
        obtain ⟨h3, h⟩ := gBif_el h3
        exact snd_throw hE h1 h2 h3 h
    | invokevirtual idx => exact snd_virtual hF hE h.1 h.2
    | invokestatic idx => exact snd_static hF hE h
    | invokespecial idx => exact snd_special hF hE h.1 h.2
    | ireturn =>
      dsimp only at h
      split at h
      · exact snd_ireturn hE rfl h
      · exact h.elim
    | areturn =>
      dsimp only at h
      split at h
      · exact snd_areturn hE rfl h
      · exact h.elim
    | dreturn =>
      dsimp only at h
      split at h
      · exact snd_dreturn hE rfl h
      · exact h.elim
    | freturn =>
      dsimp only at h
      split at h
      · exact snd_freturn hE rfl h
      · exact h.elim
    | return_ =>
      dsimp only at h
      split at h
      · exact snd_return hE rfl h
      · exact h.elim
    | _ => exact h.elim
/-- WP is sound -/
theorem WP.snd (hF : gFactsA) (h : WP m rc rs pc ls st G Q) : SND z ro cA D roArr m rc rs pc ls st G Q :=
  h (SND z ro cA D roArr) fun _ _ _ _ _ _ _ _ q => q.elim (snd_step hF) fun ⟨_, _, _, h1, h2, h3, h4⟩ => snd_less h1 h2 h3 h4
end Snd8
end
