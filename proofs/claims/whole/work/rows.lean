section
-- ===== PART A: goes FIRST, ahead of the names: the tables' words, and 'selects' of the private methods out of them =====
/-- a private method of a class that the tables say can be made, by its rows of tables_1 -/
def lw_okq (q : MethodName × Nat) : Prop := (q.1.cls ≠ "java/lang/invoke/MethodHandle" ∧ q.1.cls ≠ "java/lang/invoke/VarHandle") ∧ Cond.instantiable q.1.cls q.2 ∈ tables_1 ∧ Cond.privateMethod q.1 ∈ tables_1 ∧ Cond.instanceMethod q.1 ∈ tables_1
theorem lw_p0 : lw_okq (⟨"BitSolver", "hasModel", "()Z"⟩, 14) := ⟨⟨by decide +kernel, by decide +kernel⟩, List.mem_of_getElem? (i := 13) (by decide +kernel), List.mem_of_getElem? (i := 96) (by decide +kernel), List.mem_of_getElem? (i := 97) (by decide +kernel)⟩
theorem lw_p1 : lw_okq (⟨"BitSolver", "modelRow", "()I"⟩, 14) := ⟨⟨by decide +kernel, by decide +kernel⟩, List.mem_of_getElem? (i := 13) (by decide +kernel), List.mem_of_getElem? (i := 100) (by decide +kernel), List.mem_of_getElem? (i := 101) (by decide +kernel)⟩
theorem lw_p2 : lw_okq (⟨"BitSolver$Sets", "isWithout", "(II)Z"⟩, 1) := ⟨⟨by decide +kernel, by decide +kernel⟩, List.mem_of_getElem? (i := 27) (by decide +kernel), List.mem_of_getElem? (i := 108) (by decide +kernel), List.mem_of_getElem? (i := 109) (by decide +kernel)⟩
theorem lw_p3 : lw_okq (⟨"BitSolver", "allAssumptions", "()I"⟩, 14) := ⟨⟨by decide +kernel, by decide +kernel⟩, List.mem_of_getElem? (i := 13) (by decide +kernel), List.mem_of_getElem? (i := 120) (by decide +kernel), List.mem_of_getElem? (i := 121) (by decide +kernel)⟩
theorem lw_p4 : lw_okq (⟨"BitSolver", "canAssume", "(I)Z"⟩, 14) := ⟨⟨by decide +kernel, by decide +kernel⟩, List.mem_of_getElem? (i := 13) (by decide +kernel), List.mem_of_getElem? (i := 124) (by decide +kernel), List.mem_of_getElem? (i := 125) (by decide +kernel)⟩
theorem lw_p5 : lw_okq (⟨"java/lang/Throwable", "fillInStackTrace", "(I)Ljava/lang/Throwable;"⟩, 6) := ⟨⟨by decide +kernel, by decide +kernel⟩, List.mem_of_getElem? (i := 187) (by decide +kernel), List.mem_of_getElem? (i := 185) (by decide +kernel), List.mem_of_getElem? (i := 186) (by decide +kernel)⟩
theorem lw_p6 : lw_okq (⟨"BitSolver", "widthToBuild", "(IIII)I"⟩, 14) := ⟨⟨by decide +kernel, by decide +kernel⟩, List.mem_of_getElem? (i := 13) (by decide +kernel), List.mem_of_getElem? (i := 234) (by decide +kernel), List.mem_of_getElem? (i := 235) (by decide +kernel)⟩
theorem lw_p7 : lw_okq (⟨"BitSolver", "hasVariable", "(I)Z"⟩, 14) := ⟨⟨by decide +kernel, by decide +kernel⟩, List.mem_of_getElem? (i := 13) (by decide +kernel), List.mem_of_getElem? (i := 238) (by decide +kernel), List.mem_of_getElem? (i := 239) (by decide +kernel)⟩
theorem lw_p8 : lw_okq (⟨"BitSolver", "commonWidth", "(II)I"⟩, 14) := ⟨⟨by decide +kernel, by decide +kernel⟩, List.mem_of_getElem? (i := 13) (by decide +kernel), List.mem_of_getElem? (i := 242) (by decide +kernel), List.mem_of_getElem? (i := 243) (by decide +kernel)⟩
theorem lw_p9 : lw_okq (⟨"BitSolver", "widthOrNone", "(I)I"⟩, 14) := ⟨⟨by decide +kernel, by decide +kernel⟩, List.mem_of_getElem? (i := 13) (by decide +kernel), List.mem_of_getElem? (i := 246) (by decide +kernel), List.mem_of_getElem? (i := 247) (by decide +kernel)⟩
theorem lw_p10 : lw_okq (⟨"BitSolver", "hasTerm", "(I)Z"⟩, 14) := ⟨⟨by decide +kernel, by decide +kernel⟩, List.mem_of_getElem? (i := 13) (by decide +kernel), List.mem_of_getElem? (i := 250) (by decide +kernel), List.mem_of_getElem? (i := 251) (by decide +kernel)⟩
theorem lw_p11 : lw_okq (⟨"BitSolver", "hasFormula", "(I)Z"⟩, 14) := ⟨⟨by decide +kernel, by decide +kernel⟩, List.mem_of_getElem? (i := 13) (by decide +kernel), List.mem_of_getElem? (i := 254) (by decide +kernel), List.mem_of_getElem? (i := 255) (by decide +kernel)⟩
theorem lw_p12 : lw_okq (⟨"BitSolver", "joinedWidth", "(II)I"⟩, 14) := ⟨⟨by decide +kernel, by decide +kernel⟩, List.mem_of_getElem? (i := 13) (by decide +kernel), List.mem_of_getElem? (i := 258) (by decide +kernel), List.mem_of_getElem? (i := 259) (by decide +kernel)⟩
theorem lw_p13 : lw_okq (⟨"BitSolver", "buildNumeric", "(III)V"⟩, 14) := ⟨⟨by decide +kernel, by decide +kernel⟩, List.mem_of_getElem? (i := 13) (by decide +kernel), List.mem_of_getElem? (i := 262) (by decide +kernel), List.mem_of_getElem? (i := 263) (by decide +kernel)⟩
theorem lw_p14 : lw_okq (⟨"BitSolver", "buildNumber", "(III)V"⟩, 14) := ⟨⟨by decide +kernel, by decide +kernel⟩, List.mem_of_getElem? (i := 13) (by decide +kernel), List.mem_of_getElem? (i := 269) (by decide +kernel), List.mem_of_getElem? (i := 270) (by decide +kernel)⟩
theorem lw_p15 : lw_okq (⟨"BitSolver", "buildVariable", "(II)V"⟩, 14) := ⟨⟨by decide +kernel, by decide +kernel⟩, List.mem_of_getElem? (i := 13) (by decide +kernel), List.mem_of_getElem? (i := 273) (by decide +kernel), List.mem_of_getElem? (i := 274) (by decide +kernel)⟩
def lw_privs_1 : List (MethodName × Nat) := [(⟨"BitSolver", "hasModel", "()Z"⟩, 14), (⟨"BitSolver", "modelRow", "()I"⟩, 14), (⟨"BitSolver$Sets", "isWithout", "(II)Z"⟩, 1), (⟨"BitSolver", "allAssumptions", "()I"⟩, 14), (⟨"BitSolver", "canAssume", "(I)Z"⟩, 14), (⟨"java/lang/Throwable", "fillInStackTrace", "(I)Ljava/lang/Throwable;"⟩, 6), (⟨"BitSolver", "widthToBuild", "(IIII)I"⟩, 14), (⟨"BitSolver", "hasVariable", "(I)Z"⟩, 14), (⟨"BitSolver", "commonWidth", "(II)I"⟩, 14), (⟨"BitSolver", "widthOrNone", "(I)I"⟩, 14), (⟨"BitSolver", "hasTerm", "(I)Z"⟩, 14), (⟨"BitSolver", "hasFormula", "(I)Z"⟩, 14), (⟨"BitSolver", "joinedWidth", "(II)I"⟩, 14), (⟨"BitSolver", "buildNumeric", "(III)V"⟩, 14), (⟨"BitSolver", "buildNumber", "(III)V"⟩, 14), (⟨"BitSolver", "buildVariable", "(II)V"⟩, 14)]
theorem lw_r1 : ∀ q ∈ lw_privs_1, lw_okq q := List.forall_mem_cons.mpr ⟨lw_p0, List.forall_mem_cons.mpr ⟨lw_p1, List.forall_mem_cons.mpr ⟨lw_p2, List.forall_mem_cons.mpr ⟨lw_p3, List.forall_mem_cons.mpr ⟨lw_p4, List.forall_mem_cons.mpr ⟨lw_p5, List.forall_mem_cons.mpr ⟨lw_p6, List.forall_mem_cons.mpr ⟨lw_p7, List.forall_mem_cons.mpr ⟨lw_p8, List.forall_mem_cons.mpr ⟨lw_p9, List.forall_mem_cons.mpr ⟨lw_p10, List.forall_mem_cons.mpr ⟨lw_p11, List.forall_mem_cons.mpr ⟨lw_p12, List.forall_mem_cons.mpr ⟨lw_p13, List.forall_mem_cons.mpr ⟨lw_p14, List.forall_mem_cons.mpr ⟨lw_p15, fun _ h => absurd h List.not_mem_nil⟩⟩⟩⟩⟩⟩⟩⟩⟩⟩⟩⟩⟩⟩⟩⟩
theorem lw_p16 : lw_okq (⟨"BitSolver$Circuits", "addBit", "(III)V"⟩, 1) := ⟨⟨by decide +kernel, by decide +kernel⟩, List.mem_of_getElem? (i := 21) (by decide +kernel), List.mem_of_getElem? (i := 291) (by decide +kernel), List.mem_of_getElem? (i := 292) (by decide +kernel)⟩
theorem lw_p17 : lw_okq (⟨"BitSolver", "buildBitwise", "(III)V"⟩, 14) := ⟨⟨by decide +kernel, by decide +kernel⟩, List.mem_of_getElem? (i := 13) (by decide +kernel), List.mem_of_getElem? (i := 316) (by decide +kernel), List.mem_of_getElem? (i := 317) (by decide +kernel)⟩
theorem lw_p18 : lw_okq (⟨"BitSolver", "buildArranged", "(IIII)V"⟩, 14) := ⟨⟨by decide +kernel, by decide +kernel⟩, List.mem_of_getElem? (i := 13) (by decide +kernel), List.mem_of_getElem? (i := 323) (by decide +kernel), List.mem_of_getElem? (i := 324) (by decide +kernel)⟩
theorem lw_p19 : lw_okq (⟨"BitSolver", "canBuildFormula", "(III)Z"⟩, 14) := ⟨⟨by decide +kernel, by decide +kernel⟩, List.mem_of_getElem? (i := 13) (by decide +kernel), List.mem_of_getElem? (i := 351) (by decide +kernel), List.mem_of_getElem? (i := 352) (by decide +kernel)⟩
theorem lw_p20 : lw_okq (⟨"BitSolver", "buildRelation", "(III)V"⟩, 14) := ⟨⟨by decide +kernel, by decide +kernel⟩, List.mem_of_getElem? (i := 13) (by decide +kernel), List.mem_of_getElem? (i := 355) (by decide +kernel), List.mem_of_getElem? (i := 356) (by decide +kernel)⟩
theorem lw_p21 : lw_okq (⟨"BitSolver", "buildConnective", "(III)V"⟩, 14) := ⟨⟨by decide +kernel, by decide +kernel⟩, List.mem_of_getElem? (i := 13) (by decide +kernel), List.mem_of_getElem? (i := 376) (by decide +kernel), List.mem_of_getElem? (i := 377) (by decide +kernel)⟩
theorem lw_p22 : lw_okq (⟨"BitSolverModel", "raise", "(I)I"⟩, 23) := ⟨⟨by decide +kernel, by decide +kernel⟩, List.mem_of_getElem? (i := 509) (by decide +kernel), List.mem_of_getElem? (i := 597) (by decide +kernel), List.mem_of_getElem? (i := 598) (by decide +kernel)⟩
theorem lw_p23 : lw_okq (⟨"BitSolverModel", "widthOf", "(IIII)I"⟩, 23) := ⟨⟨by decide +kernel, by decide +kernel⟩, List.mem_of_getElem? (i := 509) (by decide +kernel), List.mem_of_getElem? (i := 605) (by decide +kernel), List.mem_of_getElem? (i := 606) (by decide +kernel)⟩
theorem lw_p24 : lw_okq (⟨"BitSolverModel", "alike", "(II)Z"⟩, 23) := ⟨⟨by decide +kernel, by decide +kernel⟩, List.mem_of_getElem? (i := 509) (by decide +kernel), List.mem_of_getElem? (i := 609) (by decide +kernel), List.mem_of_getElem? (i := 610) (by decide +kernel)⟩
theorem lw_p25 : lw_okq (⟨"BitSolverModel", "isTerm", "(I)Z"⟩, 23) := ⟨⟨by decide +kernel, by decide +kernel⟩, List.mem_of_getElem? (i := 509) (by decide +kernel), List.mem_of_getElem? (i := 613) (by decide +kernel), List.mem_of_getElem? (i := 614) (by decide +kernel)⟩
theorem lw_p26 : lw_okq (⟨"BitSolverModel", "isFormula", "(I)Z"⟩, 23) := ⟨⟨by decide +kernel, by decide +kernel⟩, List.mem_of_getElem? (i := 509) (by decide +kernel), List.mem_of_getElem? (i := 617) (by decide +kernel), List.mem_of_getElem? (i := 618) (by decide +kernel)⟩
theorem lw_p27 : lw_okq (⟨"BitSolverModel", "can", "(III)Z"⟩, 23) := ⟨⟨by decide +kernel, by decide +kernel⟩, List.mem_of_getElem? (i := 509) (by decide +kernel), List.mem_of_getElem? (i := 625) (by decide +kernel), List.mem_of_getElem? (i := 626) (by decide +kernel)⟩
theorem lw_p28 : lw_okq (⟨"BitSolverModel", "next", "(II)I"⟩, 23) := ⟨⟨by decide +kernel, by decide +kernel⟩, List.mem_of_getElem? (i := 509) (by decide +kernel), List.mem_of_getElem? (i := 645) (by decide +kernel), List.mem_of_getElem? (i := 646) (by decide +kernel)⟩
theorem lw_p29 : lw_okq (⟨"BitSolverModel", "models", "(II)Z"⟩, 23) := ⟨⟨by decide +kernel, by decide +kernel⟩, List.mem_of_getElem? (i := 509) (by decide +kernel), List.mem_of_getElem? (i := 649) (by decide +kernel), List.mem_of_getElem? (i := 650) (by decide +kernel)⟩
theorem lw_p30 : lw_okq (⟨"BitSolverModel", "raw", "(II)I"⟩, 23) := ⟨⟨by decide +kernel, by decide +kernel⟩, List.mem_of_getElem? (i := 509) (by decide +kernel), List.mem_of_getElem? (i := 653) (by decide +kernel), List.mem_of_getElem? (i := 654) (by decide +kernel)⟩
theorem lw_p31 : lw_okq (⟨"BitSolverModel", "given", "(II)I"⟩, 23) := ⟨⟨by decide +kernel, by decide +kernel⟩, List.mem_of_getElem? (i := 509) (by decide +kernel), List.mem_of_getElem? (i := 657) (by decide +kernel), List.mem_of_getElem? (i := 658) (by decide +kernel)⟩
def lw_privs_2 : List (MethodName × Nat) := [(⟨"BitSolver$Circuits", "addBit", "(III)V"⟩, 1), (⟨"BitSolver", "buildBitwise", "(III)V"⟩, 14), (⟨"BitSolver", "buildArranged", "(IIII)V"⟩, 14), (⟨"BitSolver", "canBuildFormula", "(III)Z"⟩, 14), (⟨"BitSolver", "buildRelation", "(III)V"⟩, 14), (⟨"BitSolver", "buildConnective", "(III)V"⟩, 14), (⟨"BitSolverModel", "raise", "(I)I"⟩, 23), (⟨"BitSolverModel", "widthOf", "(IIII)I"⟩, 23), (⟨"BitSolverModel", "alike", "(II)Z"⟩, 23), (⟨"BitSolverModel", "isTerm", "(I)Z"⟩, 23), (⟨"BitSolverModel", "isFormula", "(I)Z"⟩, 23), (⟨"BitSolverModel", "can", "(III)Z"⟩, 23), (⟨"BitSolverModel", "next", "(II)I"⟩, 23), (⟨"BitSolverModel", "models", "(II)Z"⟩, 23), (⟨"BitSolverModel", "raw", "(II)I"⟩, 23), (⟨"BitSolverModel", "given", "(II)I"⟩, 23)]
theorem lw_r2 : ∀ q ∈ lw_privs_2, lw_okq q := List.forall_mem_cons.mpr ⟨lw_p16, List.forall_mem_cons.mpr ⟨lw_p17, List.forall_mem_cons.mpr ⟨lw_p18, List.forall_mem_cons.mpr ⟨lw_p19, List.forall_mem_cons.mpr ⟨lw_p20, List.forall_mem_cons.mpr ⟨lw_p21, List.forall_mem_cons.mpr ⟨lw_p22, List.forall_mem_cons.mpr ⟨lw_p23, List.forall_mem_cons.mpr ⟨lw_p24, List.forall_mem_cons.mpr ⟨lw_p25, List.forall_mem_cons.mpr ⟨lw_p26, List.forall_mem_cons.mpr ⟨lw_p27, List.forall_mem_cons.mpr ⟨lw_p28, List.forall_mem_cons.mpr ⟨lw_p29, List.forall_mem_cons.mpr ⟨lw_p30, List.forall_mem_cons.mpr ⟨lw_p31, fun _ h => absurd h List.not_mem_nil⟩⟩⟩⟩⟩⟩⟩⟩⟩⟩⟩⟩⟩⟩⟩⟩
theorem lw_p32 : lw_okq (⟨"BitSolverModel", "truth", "(I)Z"⟩, 23) := ⟨⟨by decide +kernel, by decide +kernel⟩, List.mem_of_getElem? (i := 509) (by decide +kernel), List.mem_of_getElem? (i := 664) (by decide +kernel), List.mem_of_getElem? (i := 665) (by decide +kernel)⟩
def lw_privs_3 : List (MethodName × Nat) := [(⟨"BitSolverModel", "truth", "(I)Z"⟩, 23)]
theorem lw_r3 : ∀ q ∈ lw_privs_3, lw_okq q := List.forall_mem_cons.mpr ⟨lw_p32, fun _ h => absurd h List.not_mem_nil⟩
def lw_privs : List (MethodName × Nat) := lw_privs_1 ++ (lw_privs_2 ++ (lw_privs_3))
def lw_tbl : List Cond := k2_sels lw_privs ++ tables_1
theorem lw_privs_ok : ∀ q ∈ lw_privs, lw_okq q := by
  show ∀ q ∈ lw_privs_1 ++ (lw_privs_2 ++ (lw_privs_3)), lw_okq q
  exact List.forall_mem_append.mpr ⟨lw_r1, List.forall_mem_append.mpr ⟨lw_r2, lw_r3⟩⟩
-- ===== end of PART A =====
end
section
/-! ===== BEGIN words of one list among another's, by their places ===== -/
theorem goodIn_r {big : List Cond} (ws : List Cond) (ps : List Nat) (hp : ws = ps.filterMap (fun i => big[i]?)) (h : ws.all goodWord = true) : GoodIn big ws := by
  intro w hw
  have h1 := List.all_eq_true.mp h w hw
  rw [hp] at hw
  obtain ⟨i, -, hi⟩ := List.mem_filterMap.mp hw
  have hm : w ∈ big := by first | exact List.mem_of_getElem? hi | exact List.getElem?_mem hi
  exact ⟨hm, good_of_word h1⟩
theorem goodIn_app {big a b : List Cond} (ha : GoodIn big a) (hb : GoodIn big b) : GoodIn big (a ++ b) := fun w h => (List.mem_append.mp h).elim (ha w) (hb w)
theorem goodIn_ca {big a b : List Cond} {c : Cond} (ha : GoodIn big (c :: a)) (hb : GoodIn big b) : GoodIn big (c :: (a ++ b)) := fun w h => (List.mem_cons.mp h).elim (fun e => ha w (List.mem_cons.mpr (Or.inl e))) (fun h => (List.mem_append.mp h).elim (fun h => ha w (List.mem_cons.mpr (Or.inr h))) (hb w))
theorem goodIn_sub {big ws : List Cond} (hm : ∀ w ∈ ws, w ∈ big) (h : ws.all goodWord = true) : GoodIn big ws := fun w hw => ⟨hm w hw, good_of_word (List.all_eq_true.mp h w hw)⟩
/-! ===== END ===== -/

/-! ===== BEGIN exceptions that leave a method, and their catching by the caller (launches without stack traces) ===== -/
section VXA
/-! The laws vx_back, vx_callV, vx_callS, vx_callSW, vx_throw0, vx_throwS follow proofs of the library, with one case more: JvmDerived/Free/Laws.lean (Back.of_free), Shelf42/LK1.lean (callV, callS), Shelf/KitTraced.lean (throwNew0V, throwNewS). -/
/-- where a method has thrown q: the class by its name, the cell, what was written, the world -/
def vx_T (XC : String → State → State → Prop) (st : State) (q : Addr) (t : State) (mc ms : Nat) (free : Addr → Prop) : Prop :=
  ∃ (E : String) (ce : Cell) (L : List Loc), XC E st t ∧ t.heap[q]? = some ce ∧ ce.vm = .none ∧ st.vm.findClass E = some ce.cls ∧ st.WarmedH t.vm ∧ st.sameButNew ({ t with vm := st.vm } : State) L mc ms ∧ ∀ z ∈ L, free z.base
def vx_Q (Qc : Array Value → State → Outcome → State → Prop) (XC : String → State → State → Prop) (mc ms : Nat) (free : Addr → Prop) : Array Value → State → Outcome → State → Prop := fun a st o t =>
  (Qc a st o t ∧ ∃ L, FrameEnd st o t L mc ms ∧ ∀ q ∈ L, free q.base) ∨ ∃ q, o = .threw q ∧ vx_T XC st q t mc ms free
/-- a callee that returns or throws -/
def vx_Met (l : Launch) (y : MethodName) (ws : List Cond) (rm : Room) (Pc : Array Value → State → Prop) (Qc : Array Value → State → Outcome → State → Prop) (XC : String → State → State → Prop) (mc ms : Nat) (free : Addr → Prop) : Prop :=
  MetFree l y (headSpec ws rm) Pc (fun _ _ _ _ _ => True) (vx_Q Qc XC mc ms free)
def vx_Post (XC : String → State → State → Prop) (mc ms : Nat) (free : Addr → Prop) : Pt → Array Value → Addr → Pt → Prop := fun A a q B =>
  ∃ (g : JFrame) (mk : MethodId) (t : State) (L : List Loc) (E : String) (ce : Cell), B.U.heap = t.heap ∧ B.U.vm = t.vm ∧ XC E (A.U.calling g mk a) t ∧ t.heap[q]? = some ce ∧ ce.vm = .none ∧ A.U.vm.findClass E = some ce.cls ∧ B.locs = A.locs ++ L ∧ (∀ z ∈ L, free z.base) ∧ B.cells = A.cells + mc ∧ B.slots = A.slots + ms
def vx_Back (l : Launch) (R : Room) (p : Program) (e : Env) (below : List Frame) (s : State) (sargs : Array Value) (y : MethodName) (len W9 : Nat)
    (Pre : Pt → Array Value → Prop) (Post : Pt → Array Value → Option Value → Pt → Prop) (PostX : Pt → Array Value → Addr → Pt → Prop) : Prop :=
  ∀ (m : MethodId) (meth : Method) (c : Code) (A : Pt) (g : JFrame) (ig : Instr) (mk : MethodId) (a : Array Value),
    Stand p l e R s m sargs below meth c A.U A.locs A.cells A.slots → g.method = m → g.locals.size = c.maxLocals → decode c.code g.pc = .ok (ig, len) →
    2 * g.monitorRoom + (g.stack.map fun v => v.category).sum ≤ W9 → A.U.methodNamed? y = some mk → Pre A a →
    (∃ (v : Option Value) (B : Pt), Stand p l e R s m sargs below meth c B.U B.locs B.cells B.slots ∧ Post A a v B ∧
      Steps p.tables e below (doInvoke e (A.U.setTop g) [] mk a).1 (B.U.setTop { g with pc := g.pc + len, stack := v.toList ++ g.stack })) ∨
    (∃ (q : Addr) (B : Pt), Stand p l e R s m sargs below meth c B.U B.locs B.cells B.slots ∧ PostX A a q B ∧
      Steps p.tables e below (doInvoke e (A.U.setTop g) [] mk a).1 ((B.U.setTop g).pushFrame (.throwing q)))
section Payer
variable {l : Launch} {R : Room} {p : Program} {e : Env} {below : List Frame} {s : State} {sargs : Array Value} {y : MethodName} {len W9 : Nat}
theorem vx_back {ws : List Cond} {rm : Room} {Pc : Array Value → State → Prop} {Qc : Array Value → State → Outcome → State → Prop} {XC : String → State → State → Prop} {mc ms : Nat} {free : Addr → Prop} {bytes : ByteArray} {maxL : Nat} {ret : Option FieldType}
    (hM : vx_Met l y ws rm Pc Qc XC mc ms free) (hblind : FrameBlind Pc) (hrc : rm.cells = mc) (hrs : rm.slots = ms)
    (hframes : rm.frames + 1 ≤ R.frames) (hlocals : W9 + (maxL + 11) + rm.locals ≤ R.locals)
    (hws : ∀ w ∈ ws, ∀ a' U, s.WarmedH U.vm → w.before a' U = true) (hcode : Cond.code y bytes maxL ret ∈ ws) (hinit : ∀ a' U, s.WarmedH U.vm → (Cond.initialized y.cls).before a' U = true) :
    vx_Back l R p e below s sargs y len W9 (PreOf R mc ms Pc) (PostOf Qc mc ms free) (vx_Post XC mc ms free) := by
  intro m meth c A g ig mk a X hg hsize hdg hW hn hp
  have h1 : (headSpec ws rm).pre.before a A.U = true := atoms_intro fun w hw => hws w hw _ _ X.warmed
  have h2 : (Cond.code y bytes maxL ret).before a A.U = true := hws _ hcode _ _ X.warmed
  have h3 : (Cond.initialized y.cls).before a A.U = true := hinit _ _ X.warmed
  have h4 : A.cells + (headSpec ws rm).room.cells ≤ R.cells := by rw [show (headSpec ws rm).room.cells = mc from hrc]; exact hp.1
  have h5 : A.slots + (headSpec ws rm).room.slots ≤ R.slots := by rw [show (headSpec ws rm).room.slots = ms from hrs]; exact hp.2.1
  have hPc : Pc a (A.U.calling g mk a) := hblind _ _ _ _ hp.2.2
  obtain ⟨U, Ls, c0, s0⟩ := A
  dsimp only [Pt.U, Pt.locs, Pt.cells, Pt.slots] at h1 h2 h3 h4 h5 X hn hPc ⊢
  obtain ⟨methY, cY, hmY, hcY, -, hlY, -, -, -, -⟩ := Cond.code_spec hn h2
  obtain ⟨kY, hkY, -⟩ := className_of_methodNamed hn
  have hinitY : kY.init = .initialized := Cond.initialized_spec (findClass_of_methodNamed hn) hkY h3
  have h : At U g.method c below := by rw [hg]; exact X.here
  have hlocals9 : W9 + (maxL + 11) + (headSpec ws rm).room.locals ≤ R.locals := hlocals
  have happ : (headSpec ws rm).appliesLoose y e.platform (U.calling g mk a) = true :=
    Spec.appliesLoose_calling (g := g) h hdg hn hkY hinitY
      (X.room_calling (g := g) (R' := (headSpec ws rm).room) hsize hmY hcY hframes (by rw [hlY]; omega) h4 h5) h1
  obtain ⟨mid, hmid⟩ := h.above
  have hfr : (U.setTop g).frames = (.java g :: mid) ++ below := by rw [State.frames_setTop' g h.top, hmid]; rfl
  obtain ⟨o, s₂, hsteps, -, hend, hq⟩ := Steps.callFree hM p X.admits X.cas X.clock (acts := []) hfr happ hPc trivial
  have hq' : vx_Q Qc XC mc ms free a (U.calling g mk a) o s₂ := hq
  rw [State.frames_setTop' g h.top] at hend
  obtain ⟨g₀, hg0⟩ := Option.isSome_iff_exists.mp h.top
  obtain ⟨r, hr⟩ := State.topJava?_eq_some.mp hg0
  have hr' : (({ U with heap := s₂.heap, slotsUsed := s₂.slotsUsed } : State).setVm s₂.vm).frames = .java g₀ :: r := hr
  rcases hq' with ⟨hqc, L, hfe, hL⟩ | ⟨q, rfl, E, ce, L, hx, hce, hcv, hcl, hW₂, hsm, hL⟩
  · obtain ⟨⟨v, rfl⟩, hW₂, e2, q2, q3, q4, q5, q6⟩ := id hfe
    have e3 : s₂ = ({ (U.calling g mk a).setFrames s₂.frames with heap := s₂.heap, slotsUsed := s₂.slotsUsed } : State).setVm s₂.vm := by
      have : s₂ = ({ s₂ with vm := (U.calling g mk a).vm } : State).setVm s₂.vm := rfl
      rw [e2] at this
      exact this
    obtain ⟨c₂, i₂, len₂, hc₂, hd₂, hf₂⟩ := hend
    have hW' : U.WarmedH s₂.vm := hW₂
    have hcc : c₂ = c := by
      have h1 : s₂.code? g.method = U.code? g.method := by
        rw [State.code?_eq, State.code?_eq, hW'.alike.method?]
      exact Option.some.inj (hc₂.symm.trans (h1.trans h.code))
    subst hcc
    have hlen : len₂ = len := by rw [hdg] at hd₂; cases hd₂; rfl
    subst hlen
    have hs₂ : s₂ = (({ U with heap := s₂.heap, slotsUsed := s₂.slotsUsed } : State).setVm s₂.vm).setTop { g with pc := g.pc + len₂, stack := v.toList ++ g.stack } := by
      refine e3.trans ?_
      rw [hf₂, State.calling_eq h.top, State.setFrames_setFrames, State.setTop_of_frames _ hr', hr]
      rfl
    have hsame : U.sameButNew ({ U with heap := s₂.heap, slotsUsed := s₂.slotsUsed } : State) L mc ms := by
      refine ⟨?_, q2, q3, q4, q5, q6⟩
      obtain ⟨t, ht, -⟩ := State.frames_cons hr
      show ({ U with heap := s₂.heap, slotsUsed := s₂.slotsUsed } : State) = { U.setFrames U.frames with heap := s₂.heap, slotsUsed := s₂.slotsUsed }
      rw [State.setFrames_self ht]
    subst hg
    refine Or.inl ⟨v, ⟨(({ U with heap := s₂.heap, slotsUsed := s₂.slotsUsed } : State).setVm s₂.vm), Ls ++ L, c0 + mc, s0 + ms⟩,
      ⟨X.admits, X.cas, X.clock, X.frames, X.room, X.hears, X.method, X.code, (X.here.setHeapUsed s₂.heap s₂.slotsUsed).setVm hW'.alike, X.tail, State.WarmedH.trans X.warmed hW', X.limits, X.bytes, X.same.trans (hsame.setVm s.vm)⟩,
      ⟨g, mk, s₂, L, rfl, rfl, hqc, rfl, hL, rfl, rfl⟩, ?_⟩
    show Steps p.tables e below _ ((({ U with heap := s₂.heap, slotsUsed := s₂.slotsUsed } : State).setVm s₂.vm).setTop { g with pc := g.pc + len₂, stack := v.toList ++ g.stack })
    rw [← hs₂]
    exact hsteps
  · obtain ⟨e2, q2, q3, q4, q5, q6⟩ := id hsm
    have e3 : s₂ = ({ (U.calling g mk a).setFrames s₂.frames with heap := s₂.heap, slotsUsed := s₂.slotsUsed } : State).setVm s₂.vm := by
      have : s₂ = ({ s₂ with vm := (U.calling g mk a).vm } : State).setVm s₂.vm := rfl
      rw [e2] at this
      exact this
    have hf₂ : s₂.frames = .throwing q :: .java g :: U.frames.tail := hend
    have hW' : U.WarmedH s₂.vm := hW₂
    have hs₂ : s₂ = ((({ U with heap := s₂.heap, slotsUsed := s₂.slotsUsed } : State).setVm s₂.vm).setTop g).pushFrame (.throwing q) := by
      refine e3.trans ?_
      rw [hf₂, State.calling_eq h.top, State.setFrames_setFrames, State.pushFrame, State.frames_setTop _ hr', State.setTop_of_frames _ hr', State.setFrames_setFrames, hr]
      rfl
    have hsame : U.sameButNew ({ U with heap := s₂.heap, slotsUsed := s₂.slotsUsed } : State) L mc ms := by
      refine ⟨?_, q2, q3, q4, q5, q6⟩
      obtain ⟨t, ht, -⟩ := State.frames_cons hr
      show ({ U with heap := s₂.heap, slotsUsed := s₂.slotsUsed } : State) = { U.setFrames U.frames with heap := s₂.heap, slotsUsed := s₂.slotsUsed }
      rw [State.setFrames_self ht]
    subst hg
    refine Or.inr ⟨q, ⟨(({ U with heap := s₂.heap, slotsUsed := s₂.slotsUsed } : State).setVm s₂.vm), Ls ++ L, c0 + mc, s0 + ms⟩,
      ⟨X.admits, X.cas, X.clock, X.frames, X.room, X.hears, X.method, X.code, (X.here.setHeapUsed s₂.heap s₂.slotsUsed).setVm hW'.alike, X.tail, State.WarmedH.trans X.warmed hW', X.limits, X.bytes, X.same.trans (hsame.setVm s.vm)⟩,
      ⟨g, mk, s₂, L, E, ce, rfl, rfl, hx, hce, hcv, hcl, rfl, hL, rfl, rfl⟩, ?_⟩
    show Steps p.tables e below _ (((({ U with heap := s₂.heap, slotsUsed := s₂.slotsUsed } : State).setVm s₂.vm).setTop g).pushFrame (.throwing q))
    rw [← hs₂]
    exact hsteps
end Payer
section Calls
variable {p : Program} {l : Launch} {e : Env} {R : Room} {s : State} {m : MethodId} {args : Array Value} {below : List Frame} {meth : Method} {c : Code} {T : State} {locs : List Loc} {cells slots : Nat}
theorem vx_callV (X : Stand p l e R s m args below meth c T locs cells slots) (hexec : p.tables.exec = Jvm.exec) {own C : String} {index : Nat} {y : MethodName} {bytes : ByteArray} {maxL : Nat} {ret : Option FieldType}
    (hown : s.vm.findClass own = some m.cls) (hlink : (Cond.methodLink own index y).before args s = true) (hinst : (Cond.instanceMethod y).before args s = true) (hsel : (Cond.selects C y y).before args s = true)
    (hcode : (Cond.code y bytes maxL ret).before args s = true) (hy : y.cls ≠ "java/lang/invoke/MethodHandle" ∧ y.cls ≠ "java/lang/invoke/VarHandle")
    {W9 : Nat} {Pre : Pt → Array Value → Prop} {Post : Pt → Array Value → Option Value → Pt → Prop} {PostX : Pt → Array Value → Addr → Pt → Prop} (hK : vx_Back l R p e below s args y 3 W9 Pre Post PostX)
    {b : Addr} {cellB : Cell} (hcell : T.heap[b]? = some cellB) (hobj : cellB.vm.isStatics = false) (hcls : s.vm.findClass C = some cellB.cls)
    {g : JFrame} (hg : g.method = m) (hsize : g.locals.size = c.maxLocals) {argsL rest : List Value} (hlen : ∀ sig, parseMethodDescriptor y.desc = some sig → argsL.length = sig.parameters.length)
    (hstack : g.stack = argsL.reverse ++ .ref b :: rest) (hW : 2 * g.monitorRoom + (rest.map fun v => v.category).sum ≤ W9) (hdg : decode c.code g.pc = .ok (.invokevirtual index, 3))
    (hpre : ∀ vm₁, s.WarmedH vm₁ → Pre ⟨T.setVm vm₁, locs, cells, slots⟩ (Value.ref b :: argsL).toArray) :
    (∃ (v : Option Value) (vm₁ : Vm) (B : Pt), s.WarmedH vm₁ ∧ Stand p l e R s m args below meth c B.U B.locs B.cells B.slots ∧ Post ⟨T.setVm vm₁, locs, cells, slots⟩ (Value.ref b :: argsL).toArray v B ∧
      ∀ target, Steps p.tables e below (B.U.setTop { g with pc := g.pc + 3, stack := v.toList ++ rest }) target → Steps p.tables e below (T.setTop g) target) ∨
    (∃ (q : Addr) (vm₁ : Vm) (B : Pt), s.WarmedH vm₁ ∧ Stand p l e R s m args below meth c B.U B.locs B.cells B.slots ∧ PostX ⟨T.setVm vm₁, locs, cells, slots⟩ (Value.ref b :: argsL).toArray q B ∧
      Steps p.tables e below (T.setTop g) ((B.U.setTop { g with stack := rest }).pushFrame (.throwing q))) := by
  obtain ⟨mk, methM, hnamed, hmethM, hstM, habM⟩ := Cond.instanceMethod_spec hinst
  obtain ⟨methM', cM, hmethM', -, -, -, -, -, -, hsigM⟩ := Cond.code_spec hnamed hcode
  cases hmethM.symm.trans hmethM'
  obtain ⟨c2, r2, m2, q1, q2, q3, q4, kP, hkP, hkPi⟩ := Cond.selects_spec hsel
  cases hcls.symm.trans q1
  cases (State.methodFound?_of_named hnamed hy).symm.trans q2
  cases hnamed.symm.trans q3
  have hselP : selectMethod e.platform s.vm cellB.cls mk = .method mk := by rw [Launch.admits_selectMethod X.admits]; exact q4
  obtain ⟨vm₁, X₁, hstep₁⟩ := X.invokevirtual hexec hown hlink hnamed hmethM hstM hkP hkPi hy (a := b) (cell := cellB) hcell
    (fun z h => by rw [h] at hobj; cases hobj) hselP hmethM habM hkP hkPi (g := g) hg (argsL := argsL) (rest := rest) (hlen _ hsigM) hstack hdg
  rcases hK m meth c ⟨T.setVm vm₁, locs, cells, slots⟩ { g with stack := rest } (.invokevirtual index) mk (Value.ref b :: argsL).toArray X₁ hg hsize hdg hW (X₁.named hnamed) (hpre vm₁ X₁.warmed) with ⟨v, B, X', hpost, hsteps⟩ | ⟨q, B, X', hpost, hsteps⟩
  · exact Or.inl ⟨v, vm₁, B, X₁.warmed, X', hpost, fun target h => hstep₁ _ fun acts => by rw [doInvoke_state]; exact hsteps.trans h⟩
  · exact Or.inr ⟨q, vm₁, B, X₁.warmed, X', hpost, hstep₁ _ fun acts => by rw [doInvoke_state]; exact hsteps⟩
theorem vx_callS (X : Stand p l e R s m args below meth c T locs cells slots) (hexec : p.tables.exec = Jvm.exec) {own : String} {index : Nat} {y : MethodName} {bytes : ByteArray} {maxL : Nat} {ret : Option FieldType}
    (hown : s.vm.findClass own = some m.cls) (hlink : (Cond.methodLink own index y).before args s = true) (hstat : (Cond.static y).before args s = true) (hinit : (Cond.initialized y.cls).before args s = true)
    (hcode : (Cond.code y bytes maxL ret).before args s = true) (hy : y.cls ≠ "java/lang/invoke/MethodHandle" ∧ y.cls ≠ "java/lang/invoke/VarHandle")
    {W9 : Nat} {Pre : Pt → Array Value → Prop} {Post : Pt → Array Value → Option Value → Pt → Prop} {PostX : Pt → Array Value → Addr → Pt → Prop} (hK : vx_Back l R p e below s args y 3 W9 Pre Post PostX)
    {g : JFrame} (hg : g.method = m) (hsize : g.locals.size = c.maxLocals) {argsL rest : List Value} (hlen : ∀ sig, parseMethodDescriptor y.desc = some sig → argsL.length = sig.parameters.length)
    (hstack : g.stack = argsL.reverse ++ rest) (hW : 2 * g.monitorRoom + (rest.map fun v => v.category).sum ≤ W9) (hdg : decode c.code g.pc = .ok (.invokestatic index, 3))
    (hpre : ∀ vm₁, s.WarmedH vm₁ → Pre ⟨T.setVm vm₁, locs, cells, slots⟩ argsL.toArray) :
    (∃ (v : Option Value) (vm₁ : Vm) (B : Pt), s.WarmedH vm₁ ∧ Stand p l e R s m args below meth c B.U B.locs B.cells B.slots ∧ Post ⟨T.setVm vm₁, locs, cells, slots⟩ argsL.toArray v B ∧
      ∀ target, Steps p.tables e below (B.U.setTop { g with pc := g.pc + 3, stack := v.toList ++ rest }) target → Steps p.tables e below (T.setTop g) target) ∨
    (∃ (q : Addr) (vm₁ : Vm) (B : Pt), s.WarmedH vm₁ ∧ Stand p l e R s m args below meth c B.U B.locs B.cells B.slots ∧ PostX ⟨T.setVm vm₁, locs, cells, slots⟩ argsL.toArray q B ∧
      Steps p.tables e below (T.setTop g) ((B.U.setTop { g with stack := rest }).pushFrame (.throwing q))) := by
  obtain ⟨mk, hnamed⟩ := Cond.code_named hcode
  obtain ⟨methM, cM, hmethM, -, -, -, -, -, -, hsigM⟩ := Cond.code_spec hnamed hcode
  have hstatic : methM.isStatic = true := Cond.static_spec hnamed hmethM hstat
  obtain ⟨kP, hkP, -⟩ := className_of_methodNamed hnamed
  have hinitP : kP.init = .initialized := Cond.initialized_spec (findClass_of_methodNamed hnamed) hkP hinit
  obtain ⟨vm₁, X₁, hstep₁⟩ := X.invokestatic hexec hown hlink hnamed hmethM hstatic hkP hinitP hy (g := g) hg (argsL := argsL) (rest := rest) (hlen _ hsigM) hstack hdg
  rcases hK m meth c ⟨T.setVm vm₁, locs, cells, slots⟩ { g with stack := rest } (.invokestatic index) mk argsL.toArray X₁ hg hsize hdg hW (X₁.named hnamed) (hpre vm₁ X₁.warmed) with ⟨v, B, X', hpost, hsteps⟩ | ⟨q, B, X', hpost, hsteps⟩
  · exact Or.inl ⟨v, vm₁, B, X₁.warmed, X', hpost, fun target h => hstep₁ _ fun acts => by rw [doInvoke_state]; exact hsteps.trans h⟩
  · exact Or.inr ⟨q, vm₁, B, X₁.warmed, X', hpost, hstep₁ _ fun acts => by rw [doInvoke_state]; exact hsteps⟩
end Calls
theorem vx_cls {s : State} {T : State} {vm₁ : Vm} {E : String} {k : ClassId} (hW : s.WarmedH vm₁) (h : (T.setVm vm₁).vm.findClass E = some k) : s.vm.findClass E = some k := by
  have h1 : vm₁.findClass E = some k := h
  rw [hW.alike.findClass] at h1
  exact h1
/-- the method's frame g, with q thrown over it -/
def vx_W (p : Program) (l : Launch) (e : Env) (R : Room) (s : State) (m : MethodId) (args : Array Value) (below : List Frame) (meth : Method) (c : Code) (H : Heap) (locs : List Loc) (cells slots : Nat) (Q : State → Prop) (g : JFrame) (q : Addr) : Prop :=
  ∀ T : State, T.heap = H → Stand p l e R s m args below meth c T locs cells slots → ∃ t, Steps p.tables e below ((T.setTop g).pushFrame (.throwing q)) t ∧ Q t
def vx_Run (p : Program) (l : Launch) (e : Env) (R : Room) (s : State) (m : MethodId) (args : Array Value) (below : List Frame) (meth : Method) (c : Code) (H : Heap) (locs : List Loc) (cells slots mc ms : Nat) (g : JFrame) (rest : List Value) (Qa : State → Outcome → State → Prop) (XC : String → State → State → Prop) (free : Addr → Prop) : Prop :=
  ∀ T : State, T.heap = H → Stand p l e R s m args below meth c T locs cells slots →
    (∃ (v : Option Value) (st₀ t T' : State) (L : List Loc), st₀.heap = H ∧ Stand p l e R s m args below meth c T' (locs ++ L) (cells + mc) (slots + ms) ∧ (∀ q ∈ L, free q.base) ∧ T'.heap = t.heap ∧ T'.vm = t.vm ∧ Qa st₀ (.returned v) t ∧
      Goes p e below T g T' { g with pc := g.pc + 3, stack := v.toList ++ rest }) ∨
    (∃ (q : Addr) (st₀ t T' : State) (L : List Loc) (E : String) (ce : Cell), st₀.heap = H ∧ Stand p l e R s m args below meth c T' (locs ++ L) (cells + mc) (slots + ms) ∧ (∀ z ∈ L, free z.base) ∧ T'.heap = t.heap ∧ T'.vm = t.vm ∧ XC E st₀ t ∧ t.heap[q]? = some ce ∧ ce.vm = .none ∧ s.vm.findClass E = some ce.cls ∧
      Steps p.tables e below (T.setTop g) ((T'.setTop { g with stack := rest }).pushFrame (.throwing q)))
def vx_X {S : Type} (px : S → Prop) (B : String → S → State → Prop) (A : Nat → Prop) : String → State → State → Prop := fun E st t => ∃ u : S, px u ∧ B E u t ∧ va_F A st t
section Runs
variable {p : Program} {l : Launch} {e : Env} {R : Room} {s : State} {m : MethodId} {args : Array Value} {below : List Frame} {meth : Method} {c : Code} {H : Heap} {locs : List Loc} {cells slots : Nat}
variable {y : MethodName} {bytes cc : ByteArray} {maxL nL mc ms n index : Nat} {ret : Option FieldType} {ws : List Cond} {rm : Room} {Pc : Array Value → State → Prop} {Qc : Array Value → State → Outcome → State → Prop} {XC : String → State → State → Prop} {free : Addr → Prop} {Ts : List Cond} {own C : String} {b : Addr} {As rest : List Value} {g : JFrame}
theorem vx_callBack (cb : CallB R s args own index y bytes maxL ret ws rm mc ms n) (hM : vx_Met l y ws rm Pc Qc XC mc ms free) (hbl : FrameBlind Pc) : vx_Back l R p e below s args y 3 8 (PreOf R mc ms Pc) (PostOf Qc mc ms free) (vx_Post XC mc ms free) := by
  obtain ⟨hrc, hrs, hfr, hlo, hws, hcw, -, hini, -⟩ := cb
  exact vx_back (bytes := bytes) (maxL := maxL) (ret := ret) hM hbl hrc hrs hfr hlo hws hcw (fun a' U hW => word_at hW (Or.inl (by first | rfl | simp [Cond.onTables, Cond.keeps, Cond.steady])) hini)
theorem vx_runV (S : CallFix p m c cc nL s args Ts own) (hM : vx_Met l y ws rm Pc Qc XC mc ms free) (cw : CallW R s args own C index y bytes maxL ret ws rm mc ms n) (hp : PreV s H C b Pc As)
    (hg : g.method = m) (hn : As.length = n) (hsize : g.locals.size = nL) (hstack : g.stack = As.reverse ++ .ref b :: rest) (hW : 2 * g.monitorRoom + (rest.map fun v => v.category).sum ≤ 8) (hdg : decode cc g.pc = .ok (.invokevirtual index, 3)) (hf : cells + mc ≤ R.cells ∧ slots + ms ≤ R.slots) :
    vx_Run p l e R s m args below meth c H locs cells slots mc ms g rest (Qc (Value.ref b :: As).toArray) XC free := by
  have hK : vx_Back l R p e below s args y 3 8 (PreOf R mc ms Pc) (PostOf Qc mc ms free) (vx_Post XC mc ms free) := vx_callBack cw.1 hM hp.1
  obtain ⟨⟨-, -, -, -, -, -, hcode, -, hy, hlen, hl⟩, hin, hse⟩ := cw
  obtain ⟨hx, hb, hml, ho, -⟩ := S
  obtain ⟨-, ⟨cellB, hcB, hoB, hclB⟩, hPc⟩ := hp
  intro T hT X
  rcases vx_callV X hx (C := C) (bytes := bytes) (maxL := maxL) (ret := ret) ho hl hin hse hcode hy hK (by rw [hT]; exact hcB) hoB hclB hg (hsize.trans hml.symm) (argsL := As) (rest := rest) (fun sig h => hn.trans (hlen sig h)) hstack hW (by rw [hb]; exact hdg)
    (fun vm₁ hW₁ => ⟨hf.1, hf.2, hPc (T.setVm vm₁) hT hW₁⟩) with ⟨v, vm₁, ⟨U', l2, c2, s2⟩, hW₁, X', ⟨g', mk, t, L, e1, e2, hq, h1, hL, h2, h3⟩, st⟩ | ⟨q, vm₁, ⟨U', l2, c2, s2⟩, hW₁, X', ⟨g', mk, t, L, E, ce, e1, e2, hq, hce, hcv, hcl, h1, hL, h2, h3⟩, st⟩
  · dsimp only [Pt.U, Pt.locs, Pt.cells, Pt.slots] at X' e1 e2 h1 h2 h3 st
    subst h1; subst h2; subst h3
    exact Or.inl ⟨v, (T.setVm vm₁).calling g' mk (Value.ref b :: As).toArray, t, U', L, hT, X', hL, e1, e2, hq, st⟩
  · dsimp only [Pt.U, Pt.locs, Pt.cells, Pt.slots] at X' e1 e2 h1 h2 h3 st hcl
    subst h1; subst h2; subst h3
    exact Or.inr ⟨q, (T.setVm vm₁).calling g' mk (Value.ref b :: As).toArray, t, U', L, E, ce, hT, X', hL, e1, e2, hq, hce, hcv, vx_cls hW₁ hcl, st⟩
theorem vx_runS (S : CallFix p m c cc nL s args Ts own) (hM : vx_Met l y ws rm Pc Qc XC mc ms free) (cw : CallB R s args own index y bytes maxL ret ws rm mc ms n ∧ (Cond.static y).before args s = true) (hp : PreS s H Pc As)
    (hg : g.method = m) (hn : As.length = n) (hsize : g.locals.size = nL) (hstack : g.stack = As.reverse ++ rest) (hW : 2 * g.monitorRoom + (rest.map fun v => v.category).sum ≤ 8) (hdg : decode cc g.pc = .ok (.invokestatic index, 3)) (hf : cells + mc ≤ R.cells ∧ slots + ms ≤ R.slots) :
    vx_Run p l e R s m args below meth c H locs cells slots mc ms g rest (Qc As.toArray) XC free := by
  have hK : vx_Back l R p e below s args y 3 8 (PreOf R mc ms Pc) (PostOf Qc mc ms free) (vx_Post XC mc ms free) := vx_callBack cw.1 hM hp.1
  obtain ⟨⟨-, -, -, -, -, -, hcode, hini, hy, hlen, hl⟩, hstt⟩ := cw
  obtain ⟨hx, hb, hml, ho, -⟩ := S
  intro T hT X
  rcases vx_callS X hx (bytes := bytes) (maxL := maxL) (ret := ret) ho hl hstt hini hcode hy hK hg (hsize.trans hml.symm) (argsL := As) (rest := rest) (fun sig h => hn.trans (hlen sig h)) hstack hW (by rw [hb]; exact hdg)
    (fun vm₁ hW₁ => ⟨hf.1, hf.2, hp.2 (T.setVm vm₁) hT hW₁⟩) with ⟨v, vm₁, ⟨U', l2, c2, s2⟩, hW₁, X', ⟨g', mk, t, L, e1, e2, hq, h1, hL, h2, h3⟩, st⟩ | ⟨q, vm₁, ⟨U', l2, c2, s2⟩, hW₁, X', ⟨g', mk, t, L, E, ce, e1, e2, hq, hce, hcv, hcl, h1, hL, h2, h3⟩, st⟩
  · dsimp only [Pt.U, Pt.locs, Pt.cells, Pt.slots] at X' e1 e2 h1 h2 h3 st
    subst h1; subst h2; subst h3
    exact Or.inl ⟨v, (T.setVm vm₁).calling g' mk As.toArray, t, U', L, hT, X', hL, e1, e2, hq, st⟩
  · dsimp only [Pt.U, Pt.locs, Pt.cells, Pt.slots] at X' e1 e2 h1 h2 h3 st hcl
    subst h1; subst h2; subst h3
    exact Or.inr ⟨q, (T.setVm vm₁).calling g' mk As.toArray, t, U', L, E, ce, hT, X', hL, e1, e2, hq, hce, hcv, vx_cls hW₁ hcl, st⟩
end Runs
section Rows
variable {p : Program} {l : Launch} {e : Env} {R : Room} {s : State} {m : MethodId} {args : Array Value} {below : List Frame} {meth : Method} {c : Code} {H : Heap} {locs : List Loc} {cells slots : Nat} {Q : State → Prop}
variable {mc ms : Nat} {free : Addr → Prop} {A0 A1 : Nat → Prop} {H0 : Heap} {a : Array Value} {pc : Nat} {ls : Array Slot} {st0 rest : List Value}
theorem vx_keep {st₀ t T' : State} {L : List Loc} (h0 : st₀.heap = H) (e1 : T'.heap = t.heap) (hS : va_S A0 H0 H locs) (hA : ∀ q, q < H.size → A1 q → A0 q) (hf : ∀ q, free q → A0 q) (hL : ∀ q ∈ L, free q.base) (hF : va_F A1 st₀ t) :
    H.size ≤ T'.heap.size ∧ (∀ q : Nat, q < H.size → ¬ A1 q → T'.heap[q]? = H[q]?) ∧ va_S A0 H0 T'.heap (locs ++ L) := by
  obtain ⟨hz, hk⟩ := hF
  rw [h0] at hz hk
  exact ⟨by rw [e1]; exact hz, fun q h1 h2 => by rw [e1]; exact hk q h1 h2,
    ⟨Nat.le_trans hS.1 (by rw [e1]; exact hz), fun q h1 h2 => by rw [e1, hk q (Nat.lt_of_lt_of_le h1 hS.1) (fun z => h2 (hA q (Nat.lt_of_lt_of_le h1 hS.1) z))]; exact hS.2.1 q h1 h2, fun q hq => by
      rcases List.mem_append.mp hq with h | h
      · exact hS.2.2 q h
      · exact hf _ (hL q h)⟩⟩
theorem vx_calli {S SX : Type} {post : Int32 → S → Prop} {px : SX → Prop} {B : S → State → Prop} {BX : String → SX → State → Prop} {AX : Nat → Prop} (hr : vx_Run p l e R s m args below meth c H locs cells slots mc ms (F0 m pc ls st0) rest (va_Qi post B A1 a) (vx_X px BX AX) free) (hS : va_S A0 H0 H locs) (hA : ∀ q, q < H.size → A1 q → A0 q) (hf : ∀ q, free q → A0 q) (hAX : ∀ q, q < H.size → AX q → A0 q)
    (kx : ∀ (E : String) (ce : Cell) (q9 : Addr) (u : SX) (t : State) (H1 : Heap) (locs1 : List Loc), t.heap = H1 → s.vm.Alike t.vm → px u → BX E u t → H.size ≤ H1.size → (∀ q : Nat, q < H.size → ¬ AX q → H1[q]? = H[q]?) → va_S A0 H0 H1 locs1 → H1[q9]? = some ce → ce.vm = .none → s.vm.findClass E = some ce.cls → vx_W p l e R s m args below meth c H1 locs1 (cells + mc) (slots + ms) Q (F0 m pc ls rest) q9)
    (kk : ∀ (r : Int32) (u : S) (t : State) (H1 : Heap) (locs1 : List Loc), t.heap = H1 → s.vm.Alike t.vm → post r u → B u t → H.size ≤ H1.size → (∀ q : Nat, q < H.size → ¬ A1 q → H1[q]? = H[q]?) → va_S A0 H0 H1 locs1 → W p l e R s m args below meth c H1 locs1 (cells + mc) (slots + ms) Q (F0 m (pc + 3) ls (.int r :: rest))) : W p l e R s m args below meth c H locs cells slots Q (F0 m pc ls st0) := by
  intro T hT X
  rcases hr T hT X with ⟨v, st₀, t, T', L, h0, X', hL, e1, e2, ⟨⟨r, u, hv, hp, hb⟩, hF⟩, st⟩ | ⟨q, st₀, t, T', L, E, ce, h0, X', hL, e1, e2, ⟨u, hp, hb, hF⟩, hce, hcv, hcl, st⟩
  · cases hv
    obtain ⟨k1, k2, k3⟩ := vx_keep h0 e1 hS hA hf hL hF
    obtain ⟨t2, a1, b1⟩ := kk r u t T'.heap (locs ++ L) e1.symm (by rw [← e2]; exact X'.warmed.alike) hp hb k1 k2 k3 T' rfl X'
    exact ⟨t2, st t2 a1, b1⟩
  · obtain ⟨k1, k2, k3⟩ := vx_keep h0 e1 hS hAX hf hL hF
    obtain ⟨t2, a1, b1⟩ := kx E ce q u t T'.heap (locs ++ L) e1.symm (by rw [← e2]; exact X'.warmed.alike) hp hb k1 k2 k3 (by rw [e1]; exact hce) hcv hcl T' rfl X'
    exact ⟨t2, st.trans a1, b1⟩
theorem vx_calll {S SX : Type} {post : Int64 → S → Prop} {px : SX → Prop} {B : S → State → Prop} {BX : String → SX → State → Prop} {AX : Nat → Prop} (hr : vx_Run p l e R s m args below meth c H locs cells slots mc ms (F0 m pc ls st0) rest (va_Ql post B A1 a) (vx_X px BX AX) free) (hS : va_S A0 H0 H locs) (hA : ∀ q, q < H.size → A1 q → A0 q) (hf : ∀ q, free q → A0 q) (hAX : ∀ q, q < H.size → AX q → A0 q)
    (kx : ∀ (E : String) (ce : Cell) (q9 : Addr) (u : SX) (t : State) (H1 : Heap) (locs1 : List Loc), t.heap = H1 → s.vm.Alike t.vm → px u → BX E u t → H.size ≤ H1.size → (∀ q : Nat, q < H.size → ¬ AX q → H1[q]? = H[q]?) → va_S A0 H0 H1 locs1 → H1[q9]? = some ce → ce.vm = .none → s.vm.findClass E = some ce.cls → vx_W p l e R s m args below meth c H1 locs1 (cells + mc) (slots + ms) Q (F0 m pc ls rest) q9)
    (kk : ∀ (r : Int64) (u : S) (t : State) (H1 : Heap) (locs1 : List Loc), t.heap = H1 → s.vm.Alike t.vm → post r u → B u t → H.size ≤ H1.size → (∀ q : Nat, q < H.size → ¬ A1 q → H1[q]? = H[q]?) → va_S A0 H0 H1 locs1 → W p l e R s m args below meth c H1 locs1 (cells + mc) (slots + ms) Q (F0 m (pc + 3) ls (.long r :: rest))) : W p l e R s m args below meth c H locs cells slots Q (F0 m pc ls st0) := by
  intro T hT X
  rcases hr T hT X with ⟨v, st₀, t, T', L, h0, X', hL, e1, e2, ⟨⟨r, u, hv, hp, hb⟩, hF⟩, st⟩ | ⟨q, st₀, t, T', L, E, ce, h0, X', hL, e1, e2, ⟨u, hp, hb, hF⟩, hce, hcv, hcl, st⟩
  · cases hv
    obtain ⟨k1, k2, k3⟩ := vx_keep h0 e1 hS hA hf hL hF
    obtain ⟨t2, a1, b1⟩ := kk r u t T'.heap (locs ++ L) e1.symm (by rw [← e2]; exact X'.warmed.alike) hp hb k1 k2 k3 T' rfl X'
    exact ⟨t2, st t2 a1, b1⟩
  · obtain ⟨k1, k2, k3⟩ := vx_keep h0 e1 hS hAX hf hL hF
    obtain ⟨t2, a1, b1⟩ := kx E ce q u t T'.heap (locs ++ L) e1.symm (by rw [← e2]; exact X'.warmed.alike) hp hb k1 k2 k3 (by rw [e1]; exact hce) hcv hcl T' rfl X'
    exact ⟨t2, st.trans a1, b1⟩
theorem vx_callf {S SX : Type} {post : UInt32 → S → Prop} {px : SX → Prop} {B : S → State → Prop} {BX : String → SX → State → Prop} {AX : Nat → Prop} (hr : vx_Run p l e R s m args below meth c H locs cells slots mc ms (F0 m pc ls st0) rest (va_Qf post B A1 a) (vx_X px BX AX) free) (hS : va_S A0 H0 H locs) (hA : ∀ q, q < H.size → A1 q → A0 q) (hf : ∀ q, free q → A0 q) (hAX : ∀ q, q < H.size → AX q → A0 q)
    (kx : ∀ (E : String) (ce : Cell) (q9 : Addr) (u : SX) (t : State) (H1 : Heap) (locs1 : List Loc), t.heap = H1 → s.vm.Alike t.vm → px u → BX E u t → H.size ≤ H1.size → (∀ q : Nat, q < H.size → ¬ AX q → H1[q]? = H[q]?) → va_S A0 H0 H1 locs1 → H1[q9]? = some ce → ce.vm = .none → s.vm.findClass E = some ce.cls → vx_W p l e R s m args below meth c H1 locs1 (cells + mc) (slots + ms) Q (F0 m pc ls rest) q9)
    (kk : ∀ (r : UInt32) (u : S) (t : State) (H1 : Heap) (locs1 : List Loc), t.heap = H1 → s.vm.Alike t.vm → post r u → B u t → H.size ≤ H1.size → (∀ q : Nat, q < H.size → ¬ A1 q → H1[q]? = H[q]?) → va_S A0 H0 H1 locs1 → W p l e R s m args below meth c H1 locs1 (cells + mc) (slots + ms) Q (F0 m (pc + 3) ls (.float r :: rest))) : W p l e R s m args below meth c H locs cells slots Q (F0 m pc ls st0) := by
  intro T hT X
  rcases hr T hT X with ⟨v, st₀, t, T', L, h0, X', hL, e1, e2, ⟨⟨r, u, hv, hp, hb⟩, hF⟩, st⟩ | ⟨q, st₀, t, T', L, E, ce, h0, X', hL, e1, e2, ⟨u, hp, hb, hF⟩, hce, hcv, hcl, st⟩
  · cases hv
    obtain ⟨k1, k2, k3⟩ := vx_keep h0 e1 hS hA hf hL hF
    obtain ⟨t2, a1, b1⟩ := kk r u t T'.heap (locs ++ L) e1.symm (by rw [← e2]; exact X'.warmed.alike) hp hb k1 k2 k3 T' rfl X'
    exact ⟨t2, st t2 a1, b1⟩
  · obtain ⟨k1, k2, k3⟩ := vx_keep h0 e1 hS hAX hf hL hF
    obtain ⟨t2, a1, b1⟩ := kx E ce q u t T'.heap (locs ++ L) e1.symm (by rw [← e2]; exact X'.warmed.alike) hp hb k1 k2 k3 (by rw [e1]; exact hce) hcv hcl T' rfl X'
    exact ⟨t2, st.trans a1, b1⟩
theorem vx_calld {S SX : Type} {post : UInt64 → S → Prop} {px : SX → Prop} {B : S → State → Prop} {BX : String → SX → State → Prop} {AX : Nat → Prop} (hr : vx_Run p l e R s m args below meth c H locs cells slots mc ms (F0 m pc ls st0) rest (va_Qd post B A1 a) (vx_X px BX AX) free) (hS : va_S A0 H0 H locs) (hA : ∀ q, q < H.size → A1 q → A0 q) (hf : ∀ q, free q → A0 q) (hAX : ∀ q, q < H.size → AX q → A0 q)
    (kx : ∀ (E : String) (ce : Cell) (q9 : Addr) (u : SX) (t : State) (H1 : Heap) (locs1 : List Loc), t.heap = H1 → s.vm.Alike t.vm → px u → BX E u t → H.size ≤ H1.size → (∀ q : Nat, q < H.size → ¬ AX q → H1[q]? = H[q]?) → va_S A0 H0 H1 locs1 → H1[q9]? = some ce → ce.vm = .none → s.vm.findClass E = some ce.cls → vx_W p l e R s m args below meth c H1 locs1 (cells + mc) (slots + ms) Q (F0 m pc ls rest) q9)
    (kk : ∀ (r : UInt64) (u : S) (t : State) (H1 : Heap) (locs1 : List Loc), t.heap = H1 → s.vm.Alike t.vm → post r u → B u t → H.size ≤ H1.size → (∀ q : Nat, q < H.size → ¬ A1 q → H1[q]? = H[q]?) → va_S A0 H0 H1 locs1 → W p l e R s m args below meth c H1 locs1 (cells + mc) (slots + ms) Q (F0 m (pc + 3) ls (.double r :: rest))) : W p l e R s m args below meth c H locs cells slots Q (F0 m pc ls st0) := by
  intro T hT X
  rcases hr T hT X with ⟨v, st₀, t, T', L, h0, X', hL, e1, e2, ⟨⟨r, u, hv, hp, hb⟩, hF⟩, st⟩ | ⟨q, st₀, t, T', L, E, ce, h0, X', hL, e1, e2, ⟨u, hp, hb, hF⟩, hce, hcv, hcl, st⟩
  · cases hv
    obtain ⟨k1, k2, k3⟩ := vx_keep h0 e1 hS hA hf hL hF
    obtain ⟨t2, a1, b1⟩ := kk r u t T'.heap (locs ++ L) e1.symm (by rw [← e2]; exact X'.warmed.alike) hp hb k1 k2 k3 T' rfl X'
    exact ⟨t2, st t2 a1, b1⟩
  · obtain ⟨k1, k2, k3⟩ := vx_keep h0 e1 hS hAX hf hL hF
    obtain ⟨t2, a1, b1⟩ := kx E ce q u t T'.heap (locs ++ L) e1.symm (by rw [← e2]; exact X'.warmed.alike) hp hb k1 k2 k3 (by rw [e1]; exact hce) hcv hcl T' rfl X'
    exact ⟨t2, st.trans a1, b1⟩
theorem vx_callv {S SX : Type} {post : S → Prop} {px : SX → Prop} {B : S → State → Prop} {BX : String → SX → State → Prop} {AX : Nat → Prop} (hr : vx_Run p l e R s m args below meth c H locs cells slots mc ms (F0 m pc ls st0) rest (va_Qv post B A1 a) (vx_X px BX AX) free) (hS : va_S A0 H0 H locs) (hA : ∀ q, q < H.size → A1 q → A0 q) (hf : ∀ q, free q → A0 q) (hAX : ∀ q, q < H.size → AX q → A0 q)
    (kx : ∀ (E : String) (ce : Cell) (q9 : Addr) (u : SX) (t : State) (H1 : Heap) (locs1 : List Loc), t.heap = H1 → s.vm.Alike t.vm → px u → BX E u t → H.size ≤ H1.size → (∀ q : Nat, q < H.size → ¬ AX q → H1[q]? = H[q]?) → va_S A0 H0 H1 locs1 → H1[q9]? = some ce → ce.vm = .none → s.vm.findClass E = some ce.cls → vx_W p l e R s m args below meth c H1 locs1 (cells + mc) (slots + ms) Q (F0 m pc ls rest) q9)
    (kk : ∀ (u : S) (t : State) (H1 : Heap) (locs1 : List Loc), t.heap = H1 → s.vm.Alike t.vm → post u → B u t → H.size ≤ H1.size → (∀ q : Nat, q < H.size → ¬ A1 q → H1[q]? = H[q]?) → va_S A0 H0 H1 locs1 → W p l e R s m args below meth c H1 locs1 (cells + mc) (slots + ms) Q (F0 m (pc + 3) ls (rest))) : W p l e R s m args below meth c H locs cells slots Q (F0 m pc ls st0) := by
  intro T hT X
  rcases hr T hT X with ⟨v, st₀, t, T', L, h0, X', hL, e1, e2, ⟨⟨u, hv, hp, hb⟩, hF⟩, st⟩ | ⟨q, st₀, t, T', L, E, ce, h0, X', hL, e1, e2, ⟨u, hp, hb, hF⟩, hce, hcv, hcl, st⟩
  · cases hv
    obtain ⟨k1, k2, k3⟩ := vx_keep h0 e1 hS hA hf hL hF
    obtain ⟨t2, a1, b1⟩ := kk u t T'.heap (locs ++ L) e1.symm (by rw [← e2]; exact X'.warmed.alike) hp hb k1 k2 k3 T' rfl X'
    exact ⟨t2, st t2 a1, b1⟩
  · obtain ⟨k1, k2, k3⟩ := vx_keep h0 e1 hS hAX hf hL hF
    obtain ⟨t2, a1, b1⟩ := kx E ce q u t T'.heap (locs ++ L) e1.symm (by rw [← e2]; exact X'.warmed.alike) hp hb k1 k2 k3 (by rw [e1]; exact hce) hcv hcl T' rfl X'
    exact ⟨t2, st.trans a1, b1⟩
/-- caught by the row x of this method's table; the rows ahead don't take it -/
theorem vx_catch {own name : String} {E : String} {ce : Cell} {q : Addr} (hown : s.vm.findClass own = some m.cls) (pre : List ExceptionTableEntry) (x : ExceptionTableEntry) (suf : List ExceptionTableEntry) (hsplit : c.exceptionTable.toList = pre ++ x :: suf)
    (hpass : ∀ z ∈ pre, covers z pc = false ∨ (z.catchType ≠ 0 ∧ ∃ nm : String, (Cond.classLink own z.catchType nm).before args s = true ∧ va_Nc E nm s)) (hx : covers x pc = true) (h0 : x.catchType ≠ 0)
    (hlink : (Cond.classLink own x.catchType name).before args s = true) (hcast : (Cond.castable E name).before args s = true) (hcell : H[q]? = some ce) (hv : ce.vm = .none) (hcl : s.vm.findClass E = some ce.cls)
    (kk : W p l e R s m args below meth c H locs cells slots Q (F0 m x.handlerPc ls [.ref q])) : vx_W p l e R s m args below meth c H locs cells slots Q (F0 m pc ls rest) q := by
  intro T hT X
  have hpl : e.platform.magicAccessors = ({} : Platform).magicAccessors := by rw [X.admits.platform]
  obtain ⟨c3, c4, hc3, hc4, hasg⟩ := Cond.castable_spec hcast
  cases Option.some.inj (hc3.symm.trans hcl)
  obtain ⟨c5, hc5, hcl5⟩ := Cond.classLink_spec hown hlink e.platform hpl
  cases Option.some.inj (hc4.symm.trans hc5)
  obtain ⟨vm', X', st⟩ := X.thenCaughtThrough q (g := F0 m pc ls rest) rfl (Steps.refl _) (by rw [hT]; exact hcell) (by rw [hv]; rfl) (by obtain ⟨k9, h9, -⟩ := Vm.findClass_spec hcl; exact ⟨k9, h9⟩) pre x suf hsplit
    (fun z hz => by
      rcases hpass z hz with h | ⟨hz0, nm, hl1, hn1⟩
      · exact Or.inl h
      · obtain ⟨c6, hc6, hcl6⟩ := Cond.classLink_spec hown hl1 e.platform hpl
        obtain ⟨a8, b8, h1, h2, h3⟩ := hn1
        cases Option.some.inj (h1.symm.trans hcl)
        cases Option.some.inj (h2.symm.trans hc6)
        exact Or.inr ⟨hz0, _, hcl6, h3⟩) hx (Or.inr ⟨h0, c4, hcl5, hasg⟩)
  obtain ⟨t, a1, b1⟩ := kk (T.setVm vm') hT X'
  exact ⟨t, st.trans a1, b1⟩
end Rows
section Ends
variable {p : Program} {l : Launch} {e : Env} {R : Room} {s : State} {m : MethodId} {args : Array Value} {below : List Frame} {meth : Method} {c : Code} {H : Heap} {locs : List Loc} {cells slots : Nat} {Q : State → Prop}
variable {mc ms : Nat} {free : Addr → Prop} {A0 A1 : Nat → Prop} {H0 : Heap} {a : Array Value} {ls : Array Slot} {st0 rest : List Value}
variable {Qc : Array Value → State → Outcome → State → Prop} {XC : String → State → State → Prop}
/-- what a body that may throw owes at its end -/
def vx_MQ (below : List Frame) (Qc : Array Value → State → Outcome → State → Prop) (XC : String → State → State → Prop) (a : Array Value) (s : State) (mc ms : Nat) (free : Addr → Prop) : State → Prop := fun t =>
  ∃ o, t.status = .running ∧ Ended t below o ∧ vx_Q Qc XC mc ms free a s o t
theorem vx_ret {g : JFrame} {mc ms : Nat} (k : W p l e R s m args below meth c H locs cells slots (MQ below Qc args s mc ms free) g) : W p l e R s m args below meth c H locs cells slots (vx_MQ below Qc XC args s mc ms free) g := by
  intro T hT X
  obtain ⟨t, a1, o, b1, b2, b3, b4⟩ := k T hT X
  exact ⟨t, a1, o, b1, b2, Or.inl ⟨b3, b4⟩⟩
/-- not caught here: it goes on to the caller -/
theorem vx_widen {g : JFrame} {q : Addr} {k n : Nat} (h1 : cells ≤ k) (h2 : slots ≤ n) (kk : vx_W p l e R s m args below meth c H locs k n Q g q) : vx_W p l e R s m args below meth c H locs cells slots Q g q := fun T hT X => kk T hT (stand_widen X h1 h2)
theorem vx_out {pc : Nat} {E : String} {ce : Cell} {q : Addr} {mc ms : Nat} (hout : ∀ x ∈ c.exceptionTable.toList, covers x pc = false) (hlocks : meth.locks = false) (hcell : H[q]? = some ce) (hv : ce.vm = .none) (hcl : s.vm.findClass E = some ce.cls)
    (hx : ∀ t : State, t.heap = H → s.vm.Alike t.vm → XC E s t) (hf : ∀ z ∈ locs, free z.base) (hc : cells ≤ mc) (hs : slots ≤ ms) :
    vx_W p l e R s m args below meth c H locs cells slots (vx_MQ below Qc XC args s mc ms free) (F0 m pc ls rest) q := by
  intro T hT X
  obtain ⟨st1, hrun, hend, hW, hsm⟩ := X.leaveThrown q (g := F0 m pc ls rest) rfl rfl rfl hout hlocks
  have hcell9 : (T.setFrames (.throwing q :: below)).heap[q]? = some ce := by
    show T.heap[q]? = some ce
    rw [hT]; exact hcell
  exact ⟨_, st1, .threw q, hrun, hend, Or.inr ⟨q, rfl, E, ce, locs, hx _ hT hW.alike, hcell9, hv, hcl, hW, hsm.mono hc hs, hf⟩⟩
theorem vx_frame {U : State} {k n : Nat} (h : s.sameButNew ({ U with vm := s.vm } : State) locs k n) : s.heap.size ≤ U.heap.size ∧ ∀ q : Nat, q < s.heap.size → (∀ z ∈ locs, z.base ≠ q) → U.heap[q]? = s.heap[q]? := by
  obtain ⟨-, h2, -, -, -, h6⟩ := h
  refine ⟨h2, fun q hq hz => ?_⟩
  obtain ⟨c9, e1, e2, e3, e4⟩ := h6 q _ (Array.getElem?_eq_getElem hq)
  have hs : c9.slots = (s.heap[q]).slots := Array.ext_getElem? fun i => e4 i fun hm => hz _ hm rfl
  have h9 : c9 = s.heap[q] := by
    rw [hs] at e2
    exact e2
  have e5 : U.heap[q]? = some c9 := e1
  rw [e5, h9, Array.getElem?_eq_getElem hq]
/-- the words of a throw but the four that speak of the heap -/
def vx_no (w : Cond) : Bool := decide (w ≠ .isRef (.static Bundle.tN "UNASSIGNED_STACK" Bundle.steD)) && decide (w ≠ .isRef (.static Bundle.tN "SUPPRESSED_SENTINEL" Bundle.listD)) && decide (w ≠ .laysStatic Bundle.tN "UNASSIGNED_STACK" Bundle.steD) && decide (w ≠ .laysStatic Bundle.tN "SUPPRESSED_SENTINEL" Bundle.listD)
def vx_at0 (own : String) (ic : Nat) (X : String) (names : List String) : List Cond := (Bundle.ownAtoms0 own ic X names).filter vx_no
def vx_atS (own : String) (ic : Nat) (X : String) (names : List String) : List Cond := (Bundle.ownAtoms own ic X names).filter vx_no
/-- a word that the tables alone decide, or a good one -/
def vx_ot (w : Cond) : Bool := w.onTables || goodWord w
theorem vx_ot_at {args a' : Array Value} {s U : State} {w : Cond} (hW : s.WarmedH U.vm) (hvm : s.vm = U.vm) (hg : vx_ot w = true) (h : w.before args s = true) : w.before a' U = true := by
  simp only [vx_ot, Bool.or_eq_true] at hg
  rcases hg with hg | hg
  · exact va_tabs hg hvm h
  · exact word_at hW (good_of_word hg) h
/-- a list's words: the good ones out of the method's own list, the others by premises of their own -/
theorem vx_hat {args : Array Value} {s : State} {L B : List Cond} (h1 : ∀ w ∈ L.filter goodWord, w.before args s = true) (h2 : ∀ w ∈ L.filter (fun w => !goodWord w), w ∈ B) (h3 : ∀ w ∈ B, w.before args s = true) : ∀ w ∈ L, w.before args s = true := by
  intro w hw
  by_cases g : goodWord w = true
  · exact h1 w (List.mem_filter.mpr ⟨hw, g⟩)
  · refine h3 w (h2 w (List.mem_filter.mpr ⟨hw, ?_⟩))
    show (!goodWord w) = true
    cases hgw : goodWord w
    · rfl
    · exact absurd hgw g
theorem vx_c {args : Array Value} {s : State} {w : Cond} {B : List Cond} (h : w.before args s = true) (t : ∀ w ∈ B, w.before args s = true) : ∀ w' ∈ w :: B, w'.before args s = true := fun w' h' => (List.mem_cons.mp h').elim (fun e => by rw [e]; exact h) (t w')
theorem vx_n {args : Array Value} {s : State} : ∀ w ∈ ([] : List Cond), w.before args s = true := fun _ h => nomatch h
theorem vx_own {args : Array Value} {s : State} {L : List Cond} (h1 : ∀ w ∈ L.filter vx_no, w.before args s = true)
    (hU : (Cond.isRef (.static Bundle.tN "UNASSIGNED_STACK" Bundle.steD)).before args s = true) (hN : (Cond.isRef (.static Bundle.tN "SUPPRESSED_SENTINEL" Bundle.listD)).before args s = true)
    (lU : (Cond.laysStatic Bundle.tN "UNASSIGNED_STACK" Bundle.steD).before args s = true) (lN : (Cond.laysStatic Bundle.tN "SUPPRESSED_SENTINEL" Bundle.listD).before args s = true) : ∀ w ∈ L, w.before args s = true := by
  intro w hw
  by_cases e1 : w = .isRef (.static Bundle.tN "UNASSIGNED_STACK" Bundle.steD)
  · rw [e1]; exact hU
  · by_cases e2 : w = .isRef (.static Bundle.tN "SUPPRESSED_SENTINEL" Bundle.listD)
    · rw [e2]; exact hN
    · by_cases e3 : w = .laysStatic Bundle.tN "UNASSIGNED_STACK" Bundle.steD
      · rw [e3]; exact lU
      · by_cases e4 : w = .laysStatic Bundle.tN "SUPPRESSED_SENTINEL" Bundle.listD
        · rw [e4]; exact lN
        · exact h1 w (List.mem_filter.mpr ⟨hw, by unfold vx_no; rw [decide_eq_true e1, decide_eq_true e2, decide_eq_true e3, decide_eq_true e4]; rfl⟩)
/-- where a static field lies, its class's statics cell in H -/
def vx_L (C n d : String) (A : Nat → Prop) (U : State) (H : Heap) : Prop := ∃ (c : ClassId) (k : Class) (i : Nat) (f : Field) (a : Nat) (cell : Cell), U.vm.findClass C = some c ∧ U.fieldFound? C n d = some (c, k, i, f) ∧ f.isStatic = true ∧ k.statics = some a ∧ H[a]? = some cell ∧ cell.vm.isStatics = true ∧ cell.cls = c ∧ f.slot < cell.slots.size ∧ k.staticTypes[f.slot]? = some f.type ∧ ¬ A a
theorem vx_L.moved {C n d : String} {A : Nat → Prop} {u U : State} {H : Heap} (hvm : u.vm.Alike U.vm) (h : vx_L C n d A u H) : vx_L C n d A U H := by
  obtain ⟨c, k, i, f, a, cell, h1, h2, h3, h4, h5, h6, h7, h8, h9, h10⟩ := h
  obtain ⟨k', hi', he⟩ := State.fieldFound?_setVm hvm h2
  exact ⟨c, k', i, f, a, cell, by rw [hvm.findClass]; exact h1, hi', h3, by rw [he]; exact h4, h5, h6, h7, h8, by rw [he]; exact h9, h10⟩
theorem vx_L.kept {C n d : String} {A : Nat → Prop} {U : State} {H H1 : Heap} (h : vx_L C n d A U H) (hq : ∀ a : Nat, a < H.size → ¬ A a → H1[a]? = H[a]?) : vx_L C n d A U H1 := by
  obtain ⟨c, k, i, f, a, cell, h1, h2, h3, h4, h5, h6, h7, h8, h9, h10⟩ := h
  exact ⟨c, k, i, f, a, cell, h1, h2, h3, h4, by rw [hq a (Array.getElem?_eq_some_iff.mp h5).1 h10]; exact h5, h6, h7, h8, h9, h10⟩
theorem vx_L.narrow {C n d : String} {A B : Nat → Prop} {U : State} {H : Heap} (h : vx_L C n d A U H) (hAB : ∀ q, B q → A q) : vx_L C n d B U H := by
  obtain ⟨c, k, i, f, a, cell, h1, h2, h3, h4, h5, h6, h7, h8, h9, h10⟩ := h
  exact ⟨c, k, i, f, a, cell, h1, h2, h3, h4, h5, h6, h7, h8, h9, fun z => h10 (hAB _ z)⟩
theorem vx_L.word {C n d : String} {A : Nat → Prop} {s : State} {args : Array Value} (h : vx_L C n d A s s.heap) : (Cond.laysStatic C n d).before args s = true := by
  obtain ⟨c, k, i, f, a, cell, h1, h2, h3, h4, h5, h6, h7, h8, h9, -⟩ := h
  show (Cond.laysStatic C n d).holds args s none s [] = true
  exact Cond.laysStatic_of h1 h2 h3 h4 h5 h6 h7 h8 h9
/-- .. and what it holds: null or some reference -/
def vx_Zq (C n d : String) (A : Nat → Prop) (U : State) (H : Heap) : Prop := va_Zq C n d A U H ∧ vx_L C n d A U H
theorem vx_Zq.moved {C n d : String} {A : Nat → Prop} {u U : State} {H : Heap} (hvm : u.vm.Alike U.vm) (h : vx_Zq C n d A u H) : vx_Zq C n d A U H := ⟨va_Zq.moved hvm h.1, vx_L.moved hvm h.2⟩
theorem vx_Zq.kept {C n d : String} {A : Nat → Prop} {U : State} {H H1 : Heap} (h : vx_Zq C n d A U H) (hq : ∀ a : Nat, a < H.size → ¬ A a → H1[a]? = H[a]?) : vx_Zq C n d A U H1 := ⟨va_Zq.kept h.1 hq, vx_L.kept h.2 hq⟩
theorem vx_Zq.narrow {C n d : String} {A B : Nat → Prop} {U : State} {H : Heap} (h : vx_Zq C n d A U H) (hAB : ∀ q, B q → A q) : vx_Zq C n d B U H := ⟨va_Zq.narrow h.1 hAB, vx_L.narrow h.2 hAB⟩
theorem vx_Zqof {args : Array Value} {s : State} {C n d : String} {A : Nat → Prop} (hl : (Cond.laysStatic C n d).before args s = true) (hini : (Cond.initialized C).before args s = true) (h : (Cond.isRef (.static C n d)).before args s = true) (hA : ∀ a : Nat, a < s.heap.size → ¬ A a) : vx_Zq C n d A s s.heap := by
  refine ⟨va_Zqof hl hini h hA, ?_⟩
  obtain ⟨c, k, i, f, a, cell, h1, h2, h3, h4, h5, h6, h7, h8, h9⟩ := Cond.laysStatic_spec hl
  exact ⟨c, k, i, f, a, cell, h1, h2, h3, h4, h5, h6, h7, h8, h9, hA a (Array.getElem?_eq_some_iff.mp h5).1⟩
theorem vx_isRef {C n d : String} {v : Value} {A : Nat → Prop} {s : State} {args : Array Value} (h : va_Z C n d v A s s.heap) (hv : v.isRef = true) : (Cond.isRef (.static C n d)).before args s = true := by
  obtain ⟨cf, kf, fi, f, a, cell, h1, h2, h3, h4, h5, h6, h7, -⟩ := h
  have he : (Term.static C n d).eval args s none [] s = some v := by
    simp [Term.eval, State.fieldNamed?, h1, h2, h4, h5, h6, h7]
  simp only [Cond.before, Cond.holds, Cond.value, he]
  cases v <;> simp_all [Value.isRef]
theorem vx_isRefq {C n d : String} {A : Nat → Prop} {s : State} {args : Array Value} (h : va_Zq C n d A s s.heap) : (Cond.isRef (.static C n d)).before args s = true := by
  rcases h with h | ⟨t, h⟩
  · exact vx_isRef h rfl
  · exact vx_isRef h rfl
/-- the same frame, seen from here: as if the method were called anew in this heap -/
theorem vx_rebase {T : State} (X : Stand p l e R s m args below meth c T locs cells slots) {R' : Room} (hf : R'.frames ≤ R.frames) (hl : R'.locals ≤ R.locals) (hc : cells + R'.cells ≤ R.cells) (hs : slots + R'.slots ≤ R.slots) :
    Stand p l e R' ((T.setVm s.vm).setFrames (.invoking m args :: below)) m args below meth c T [] 0 0 := by
  have htop : (T.setVm s.vm).topJava?.isSome := X.here.top
  have hF : ((T.setVm s.vm).setFrames (.invoking m args :: below)).frames = .invoking m args :: below := State.frames_setFrames _ (State.cur_lt_of_top htop)
  obtain ⟨g₀, hg0⟩ := Option.isSome_iff_exists.mp htop
  obtain ⟨r, hr⟩ := State.topJava?_eq_some.mp hg0
  have hl9 : e.platform.stackLimits (T.setVm s.vm).me = e.platform.stackLimits s.me := X.limits
  have hb9 : (T.setVm s.vm).me.stackBytes = s.me.stackBytes := X.bytes
  refine ⟨X.admits, X.cas, X.clock, hF, ?_, X.hears, X.method, X.code, X.here, X.tail, X.warmed, ?_, ?_, ?_⟩
  · have h := X.room
    have hU : ((T.setVm s.vm).setFrames (.invoking m args :: below)).localsInUse = s.localsInUse := by
      rw [State.localsInUse_invoking hF (meth := meth) (c := c) X.method X.code, State.localsInUse_invoking X.frames X.method X.code]
    simp only [State.hasRoom, Bool.and_eq_true, decide_eq_true_eq] at h ⊢
    obtain ⟨⟨⟨⟨h1, h2, h3, h4, h5, h6⟩, h7⟩, h8⟩, h9⟩ := h
    rw [X.frames, List.length_cons] at h2 h3
    have q1 := X.heapSize
    have q2 := X.used
    simp only [hF, hU, List.length_cons, State.stackLimits_setFrames, State.stackBytes_setFrames, hl9, hb9]
    refine ⟨⟨⟨⟨by omega, by omega, by omega, by omega, by omega, h6⟩, ?_⟩, ?_⟩, X.book⟩
    · show T.heap.size + R'.cells ≤ e.platform.maxCells
      omega
    · show T.slotsUsed + R'.slots ≤ e.platform.maxSlots
      omega
  · rw [State.stackLimits_setFrames]; rfl
  · rw [State.stackBytes_setFrames]; rfl
  · refine ⟨?_, Nat.le_refl _, Nat.le_refl _, ?_, ?_, fun a c9 h9 => ⟨c9, h9, rfl, rfl, fun _ _ => rfl⟩⟩
    · obtain ⟨t, ht, -⟩ := State.frames_cons hr
      show T.setVm s.vm = { ((T.setVm s.vm).setFrames (.invoking m args :: below)).setFrames (T.setVm s.vm).frames with heap := T.heap, slotsUsed := T.slotsUsed }
      rw [State.setFrames_setFrames, State.setFrames_self ht]
      rfl
    · show T.slotsUsed = T.slotsUsed + ((T.heap.toList.drop T.heap.size).map (·.slots.size)).sum
      rw [List.drop_eq_nil_of_le (Nat.le_of_eq Array.length_toList)]
      rfl
    · show ((T.heap.toList.drop T.heap.size).map (·.slots.size)).sum ≤ 0
      rw [List.drop_eq_nil_of_le (Nat.le_of_eq Array.length_toList)]
      exact Nat.le_refl _
/-- 'throw new E()': new; dup; invokespecial; athrow -/
theorem vx_throw0 {cc : ByteArray} {pc : Nat} (hexec : p.tables.exec = Jvm.exec) (hb : c.code = cc) (hl : l.stackTraces = false) {own cls : String} {names : List String} {ik ic mc ms : Nat} {A : Nat → Prop}
    (hown : s.vm.findClass own = some m.cls) (hcls : Bundle.fit cls = true) (hnames : ∀ n ∈ names, Bundle.fit n = true)
    (hk : (Cond.classLink own ik cls).before args s = true) (hini : (Cond.initialized cls).before args s = true) (hat : ∀ w ∈ vx_at0 own ic cls names, w.before args s = true)
    (hgood : ∀ w ∈ Cond.classLink own ik cls :: Cond.initialized cls :: vx_at0 own ic cls names, vx_ot w = true)
    (hU : vx_Zq Bundle.tN "UNASSIGNED_STACK" Bundle.steD A s s.heap) (hN : vx_Zq Bundle.tN "SUPPRESSED_SENTINEL" Bundle.listD A s s.heap) (hS : va_S A s.heap H locs) (hsize : ls.size = c.maxLocals)
    (d0 : decode cc pc = .ok (.new ik, 3)) (d3 : decode cc (pc + 3) = .ok (.dup, 1)) (d4 : decode cc (pc + 4) = .ok (.invokespecial ic, 3)) (d7 : decode cc (pc + 7) = .ok (.athrow, 1))
    (hout : ∀ x ∈ c.exceptionTable.toList, covers x (pc + 7) = false)
    (hRframes : names.length + 3 < R.frames) (hRlocals : (rest.map fun v => v.category).sum + (13 * (names.length + 1) + 42) ≤ R.locals) (hRcells : cells + 1 ≤ R.cells) (hRslots : slots + 6 ≤ R.slots) (hlocks : meth.locks = false)
    (hx : ∀ t : State, s.vm.Alike t.vm → H.size ≤ t.heap.size → (∀ q : Nat, q < H.size → t.heap[q]? = H[q]?) → XC cls s t)
    (hf : ∀ z ∈ locs, free z.base) (hc : cells + 1 ≤ mc) (hs : slots + 6 ≤ ms) :
    W p l e R s m args below meth c H locs cells slots (vx_MQ below Qc XC args s mc ms free) (F0 m pc ls rest) := by
  intro T hT X
  have htr : e.platform.stackTraces = false := (show e.platform.stackTraces = l.stackTraces by rw [X.admits.platform]).trans hl
  have Y := vx_rebase X (R' := { frames := R.frames, locals := R.locals, cells := 1, slots := 6 }) (Nat.le_refl _) (Nat.le_refl _) hRcells hRslots
  obtain ⟨s', hA⟩ : ∃ z, z = (T.setVm s.vm).setFrames (.invoking m args :: below) := ⟨_, rfl⟩
  rw [← hA] at Y
  have hvm : s'.vm = s.vm := by rw [hA]; rfl
  have hhp : s'.heap = H := by rw [hA]; exact hT
  have hW0 : s.WarmedH s'.vm := by rw [hvm]; exact State.WarmedH.refl s
  have hat' : ∀ w ∈ vx_at0 own ic cls names, w.before args s' = true := fun w hw => vx_ot_at hW0 hvm.symm (hgood w (List.mem_cons_of_mem _ (List.mem_cons_of_mem _ hw))) (hat w hw)
  have hk' : (Cond.classLink own ik cls).before args s' = true := vx_ot_at hW0 hvm.symm (hgood _ List.mem_cons_self) hk
  have hini' : (Cond.initialized cls).before args s' = true := vx_ot_at hW0 hvm.symm (hgood _ (List.mem_cons_of_mem _ List.mem_cons_self)) hini
  have hU' : vx_Zq Bundle.tN "UNASSIGNED_STACK" Bundle.steD A s' s'.heap := by rw [hhp]; exact vx_Zq.moved hW0.alike (hU.kept hS.2.1)
  have hN' : vx_Zq Bundle.tN "SUPPRESSED_SENTINEL" Bundle.listD A s' s'.heap := by rw [hhp]; exact vx_Zq.moved hW0.alike (hN.kept hS.2.1)
  have h : ∀ w ∈ Bundle.ownAtoms0 own ic cls names, w.before args s' = true := vx_own hat' (vx_isRefq hU'.1) (vx_isRefq hN'.1) hU'.2.word hN'.2.word
  have hown' : s'.vm.findClass own = some m.cls := by rw [hvm]; exact hown
  have hins : (Cond.instantiable cls 6).before args s' = true := h _ (by simp [Bundle.ownAtoms0])
  obtain ⟨vm₁, cX, kX, hfX, hkX, -, -, X₁, st1⟩ := Y.newCold hexec (own := own) (C := cls) (index := ik) (n := 6) hown' hk' hins hini'
    (g := F0 m pc ls rest) rfl (by rw [hb]; exact d0) (Nat.le_refl _) (Nat.le_refl _)
  generalize hT1 : (T.setVm vm₁).pushCell { cls := cX, slots := kX.instanceTypes.map defaultValue, vm := .none } = T1 at X₁ st1
  have hcat : (Value.ref T.heap.size).category = 1 := rfl
  have hcellA : T1.heap[T.heap.size]? = some (freshCell cX kX) := by rw [← hT1]; exact State.heap_pushCell_size _ _
  have d3' : decode c.code (pc + 3) = .ok (.dup, 1) := by rw [hb]; exact d3
  obtain ⟨U, hsteps, hrun, hend, hW, hsame, ce, hce, hO⟩ := X₁.ctorThrow0 hexec htr (own := own) (cls := cls) (names := names) (ic := ic) hown' hcls hnames h (fun x hx => nomatch hx) hfX hkX hcellA (by rw [hhp, hT]; exact Nat.le_refl _)
    (g := { method := m, pc := pc + 4, locals := ls, stack := .ref T.heap.size :: .ref T.heap.size :: rest, locked := none }) rfl hsize rfl rfl (rest := rest) rfl
    (by rw [hb]; exact d4) (by rw [hb]; exact d7) hout hRframes (by simp only [List.map_cons, List.sum_cons, hcat]; omega) hlocks
  obtain ⟨f1, f2⟩ := vx_frame hsame
  rw [hhp] at f1 f2
  have hWs : s.WarmedH U.vm := State.WarmedH.trans hW0 hW
  have hcl : s.vm.findClass cls = some ce.cls := by
    have h9 := hO.cls
    rw [hvm] at h9
    exact h9
  have hall : s.sameButNew ({ U with vm := s.vm } : State) locs mc ms := by
    subst hA
    obtain ⟨e1, e2⟩ := hsame
    rw [State.setFrames_setFrames] at e1
    have h2 : (T.setVm s.vm).sameButNew ({ U with vm := s.vm } : State) [] (0 + 1) (0 + 6) := ⟨e1, e2⟩
    have h3 := X.same.trans h2
    rw [List.append_nil] at h3
    exact h3.mono hc hs
  refine ⟨U, ?_, .threw T.heap.size, hrun, hend, Or.inr ⟨T.heap.size, rfl, cls, ce, locs, hx U hWs.alike f1 (fun q hq => f2 q hq (fun z hz => nomatch hz)), hce, hO.vm, hcl, hWs, hall, hf⟩⟩
  refine st1 _ ?_
  show Steps p.tables e below (T1.setTop { method := m, pc := pc + 3, locals := ls, stack := .ref T.heap.size :: rest, locked := none }) _
  jvm_step X₁.here [X₁.here.top, hexec, d3', Value.category]
  exact hsteps
/-- 'throw new E("text")': new; dup; ldc; invokespecial; athrow -/
theorem vx_throwS {cc : ByteArray} {pc : Nat} (hexec : p.tables.exec = Jvm.exec) (hb : c.code = cc) (hl : l.stackTraces = false) {own cls text : String} {names : List String} {ik is ic mc ms sa : Nat} {A : Nat → Prop}
    (hown : s.vm.findClass own = some m.cls) (hcls : Bundle.fit cls = true) (hnames : ∀ n ∈ names, Bundle.fit n = true)
    (hk : (Cond.classLink own ik cls).before args s = true) (hini : (Cond.initialized cls).before args s = true) (hstr : vk_R own is text sa s) (hat : ∀ w ∈ vx_atS own ic cls names, w.before args s = true)
    (hgood : ∀ w ∈ Cond.classLink own ik cls :: Cond.initialized cls :: vx_atS own ic cls names, vx_ot w = true)
    (hU : vx_Zq Bundle.tN "UNASSIGNED_STACK" Bundle.steD A s s.heap) (hN : vx_Zq Bundle.tN "SUPPRESSED_SENTINEL" Bundle.listD A s s.heap) (hS : va_S A s.heap H locs) (hsize : ls.size = c.maxLocals)
    (d0 : decode cc pc = .ok (.new ik, 3)) (d3 : decode cc (pc + 3) = .ok (.dup, 1)) (d4 : decode cc (pc + 4) = .ok (.ldc is, 2)) (d6 : decode cc (pc + 6) = .ok (.invokespecial ic, 3)) (d9 : decode cc (pc + 9) = .ok (.athrow, 1))
    (hout : ∀ x ∈ c.exceptionTable.toList, covers x (pc + 9) = false)
    (hRframes : names.length + 3 < R.frames) (hRlocals : (rest.map fun v => v.category).sum + (13 * (names.length + 1) + 43) ≤ R.locals) (hRcells : cells + 1 ≤ R.cells) (hRslots : slots + 6 ≤ R.slots) (hlocks : meth.locks = false)
    (hx : ∀ t : State, s.vm.Alike t.vm → H.size ≤ t.heap.size → (∀ q : Nat, q < H.size → t.heap[q]? = H[q]?) → XC cls s t)
    (hf : ∀ z ∈ locs, free z.base) (hc : cells + 1 ≤ mc) (hs : slots + 6 ≤ ms) :
    W p l e R s m args below meth c H locs cells slots (vx_MQ below Qc XC args s mc ms free) (F0 m pc ls rest) := by
  intro T hT X
  have htr : e.platform.stackTraces = false := (show e.platform.stackTraces = l.stackTraces by rw [X.admits.platform]).trans hl
  have Y := vx_rebase X (R' := { frames := R.frames, locals := R.locals, cells := 1, slots := 6 }) (Nat.le_refl _) (Nat.le_refl _) hRcells hRslots
  obtain ⟨s', hA⟩ : ∃ z, z = (T.setVm s.vm).setFrames (.invoking m args :: below) := ⟨_, rfl⟩
  rw [← hA] at Y
  have hvm : s'.vm = s.vm := by rw [hA]; rfl
  have hhp : s'.heap = H := by rw [hA]; exact hT
  have hW0 : s.WarmedH s'.vm := by rw [hvm]; exact State.WarmedH.refl s
  have hat' : ∀ w ∈ vx_atS own ic cls names, w.before args s' = true := fun w hw => vx_ot_at hW0 hvm.symm (hgood w (List.mem_cons_of_mem _ (List.mem_cons_of_mem _ hw))) (hat w hw)
  have hk' : (Cond.classLink own ik cls).before args s' = true := vx_ot_at hW0 hvm.symm (hgood _ List.mem_cons_self) hk
  have hini' : (Cond.initialized cls).before args s' = true := vx_ot_at hW0 hvm.symm (hgood _ (List.mem_cons_of_mem _ List.mem_cons_self)) hini
  have hU' : vx_Zq Bundle.tN "UNASSIGNED_STACK" Bundle.steD A s' s'.heap := by rw [hhp]; exact vx_Zq.moved hW0.alike (hU.kept hS.2.1)
  have hN' : vx_Zq Bundle.tN "SUPPRESSED_SENTINEL" Bundle.listD A s' s'.heap := by rw [hhp]; exact vx_Zq.moved hW0.alike (hN.kept hS.2.1)
  have h : ∀ w ∈ Bundle.ownAtoms own ic cls names, w.before args s' = true := vx_own hat' (vx_isRefq hU'.1) (vx_isRefq hN'.1) hU'.2.word hN'.2.word
  have hown' : s'.vm.findClass own = some m.cls := by rw [hvm]; exact hown
  have hins : (Cond.instantiable cls 6).before args s' = true := h _ (by simp [Bundle.ownAtoms])
  obtain ⟨vm₁, cX, kX, hfX, hkX, -, -, X₁, st1⟩ := Y.newCold hexec (own := own) (C := cls) (index := ik) (n := 6) hown' hk' hins hini'
    (g := F0 m pc ls rest) rfl (by rw [hb]; exact d0) (Nat.le_refl _) (Nat.le_refl _)
  generalize hT1 : (T.setVm vm₁).pushCell { cls := cX, slots := kX.instanceTypes.map defaultValue, vm := .none } = T1 at X₁ st1
  have hcat : (Value.ref T.heap.size).category = 1 := rfl
  have hcellA : T1.heap[T.heap.size]? = some (freshCell cX kX) := by rw [← hT1]; exact State.heap_pushCell_size _ _
  have d3' : decode c.code (pc + 3) = .ok (.dup, 1) := by rw [hb]; exact d3
  have d4' : decode c.code (pc + 4) = .ok (.ldc is, 2) := by rw [hb]; exact d4
  have hstr' : vk_R own is text sa s' := vk_R.warm hW0 hstr
  obtain ⟨U, hsteps, hrun, hend, hW, hsame, ce, hce, hO⟩ := X₁.ctorThrowS hexec htr (own := own) (cls := cls) (names := names) (ic := ic) hown' hcls hnames h (fun x hx => nomatch hx) hfX hkX hcellA (by rw [hhp, hT]; exact Nat.le_refl _) (msg := .ref sa) rfl
    (g := { method := m, pc := pc + 6, locals := ls, stack := .ref sa :: .ref T.heap.size :: .ref T.heap.size :: rest, locked := none }) rfl hsize rfl rfl (rest := rest) rfl
    (by rw [hb]; exact d6) (by rw [hb]; exact d9) hout hRframes (by simp only [List.map_cons, List.sum_cons, hcat]; omega) hlocks
  obtain ⟨f1, f2⟩ := vx_frame hsame
  rw [hhp] at f1 f2
  have hWs : s.WarmedH U.vm := State.WarmedH.trans hW0 hW
  have hcl : s.vm.findClass cls = some ce.cls := by
    have h9 := hO.cls
    rw [hvm] at h9
    exact h9
  have hall : s.sameButNew ({ U with vm := s.vm } : State) locs mc ms := by
    subst hA
    obtain ⟨e1, e2⟩ := hsame
    rw [State.setFrames_setFrames] at e1
    have h2 : (T.setVm s.vm).sameButNew ({ U with vm := s.vm } : State) [] (0 + 1) (0 + 6) := ⟨e1, e2⟩
    have h3 := X.same.trans h2
    rw [List.append_nil] at h3
    exact h3.mono hc hs
  refine ⟨U, ?_, .threw T.heap.size, hrun, hend, Or.inr ⟨T.heap.size, rfl, cls, ce, locs, hx U hWs.alike f1 (fun q hq => f2 q hq (fun z hz => nomatch hz)), hce, hO.vm, hcl, hWs, hall, hf⟩⟩
  refine st1 _ ?_
  show Steps p.tables e below (T1.setTop { method := m, pc := pc + 3, locals := ls, stack := .ref T.heap.size :: rest, locked := none }) _
  jvm_step X₁.here [X₁.here.top, hexec, d3', Value.category]
  exact X₁.ldcString hexec (own := own) (text := text) (index := is) (a := sa) hown' hstr'.1 hstr'.2
    (g := { method := m, pc := pc + 4, locals := ls, stack := .ref T.heap.size :: .ref T.heap.size :: rest, locked := none }) rfl d4' _ hsteps
/-- 'throw new E("text")', the text by a wide index -/
theorem vx_throwSW {cc : ByteArray} {pc : Nat} (hexec : p.tables.exec = Jvm.exec) (hb : c.code = cc) (hl : l.stackTraces = false) {own cls text : String} {names : List String} {ik is ic mc ms sa : Nat} {A : Nat → Prop}
    (hown : s.vm.findClass own = some m.cls) (hcls : Bundle.fit cls = true) (hnames : ∀ n ∈ names, Bundle.fit n = true)
    (hk : (Cond.classLink own ik cls).before args s = true) (hini : (Cond.initialized cls).before args s = true) (hstr : vk_R own is text sa s) (hat : ∀ w ∈ vx_atS own ic cls names, w.before args s = true)
    (hgood : ∀ w ∈ Cond.classLink own ik cls :: Cond.initialized cls :: vx_atS own ic cls names, vx_ot w = true)
    (hU : vx_Zq Bundle.tN "UNASSIGNED_STACK" Bundle.steD A s s.heap) (hN : vx_Zq Bundle.tN "SUPPRESSED_SENTINEL" Bundle.listD A s s.heap) (hS : va_S A s.heap H locs) (hsize : ls.size = c.maxLocals)
    (d0 : decode cc pc = .ok (.new ik, 3)) (d3 : decode cc (pc + 3) = .ok (.dup, 1)) (d4 : decode cc (pc + 4) = .ok (.ldc_w is, 3)) (d7 : decode cc (pc + 7) = .ok (.invokespecial ic, 3)) (d10 : decode cc (pc + 10) = .ok (.athrow, 1))
    (hout : ∀ x ∈ c.exceptionTable.toList, covers x (pc + 10) = false)
    (hRframes : names.length + 3 < R.frames) (hRlocals : (rest.map fun v => v.category).sum + (13 * (names.length + 1) + 43) ≤ R.locals) (hRcells : cells + 1 ≤ R.cells) (hRslots : slots + 6 ≤ R.slots) (hlocks : meth.locks = false)
    (hx : ∀ t : State, s.vm.Alike t.vm → H.size ≤ t.heap.size → (∀ q : Nat, q < H.size → t.heap[q]? = H[q]?) → XC cls s t)
    (hf : ∀ z ∈ locs, free z.base) (hc : cells + 1 ≤ mc) (hs : slots + 6 ≤ ms) :
    W p l e R s m args below meth c H locs cells slots (vx_MQ below Qc XC args s mc ms free) (F0 m pc ls rest) := by
  intro T hT X
  have htr : e.platform.stackTraces = false := (show e.platform.stackTraces = l.stackTraces by rw [X.admits.platform]).trans hl
  have Y := vx_rebase X (R' := { frames := R.frames, locals := R.locals, cells := 1, slots := 6 }) (Nat.le_refl _) (Nat.le_refl _) hRcells hRslots
  obtain ⟨s', hA⟩ : ∃ z, z = (T.setVm s.vm).setFrames (.invoking m args :: below) := ⟨_, rfl⟩
  rw [← hA] at Y
  have hvm : s'.vm = s.vm := by rw [hA]; rfl
  have hhp : s'.heap = H := by rw [hA]; exact hT
  have hW0 : s.WarmedH s'.vm := by rw [hvm]; exact State.WarmedH.refl s
  have hat' : ∀ w ∈ vx_atS own ic cls names, w.before args s' = true := fun w hw => vx_ot_at hW0 hvm.symm (hgood w (List.mem_cons_of_mem _ (List.mem_cons_of_mem _ hw))) (hat w hw)
  have hk' : (Cond.classLink own ik cls).before args s' = true := vx_ot_at hW0 hvm.symm (hgood _ List.mem_cons_self) hk
  have hini' : (Cond.initialized cls).before args s' = true := vx_ot_at hW0 hvm.symm (hgood _ (List.mem_cons_of_mem _ List.mem_cons_self)) hini
  have hU' : vx_Zq Bundle.tN "UNASSIGNED_STACK" Bundle.steD A s' s'.heap := by rw [hhp]; exact vx_Zq.moved hW0.alike (hU.kept hS.2.1)
  have hN' : vx_Zq Bundle.tN "SUPPRESSED_SENTINEL" Bundle.listD A s' s'.heap := by rw [hhp]; exact vx_Zq.moved hW0.alike (hN.kept hS.2.1)
  have h : ∀ w ∈ Bundle.ownAtoms own ic cls names, w.before args s' = true := vx_own hat' (vx_isRefq hU'.1) (vx_isRefq hN'.1) hU'.2.word hN'.2.word
  have hown' : s'.vm.findClass own = some m.cls := by rw [hvm]; exact hown
  have hins : (Cond.instantiable cls 6).before args s' = true := h _ (by simp [Bundle.ownAtoms])
  obtain ⟨vm₁, cX, kX, hfX, hkX, -, -, X₁, st1⟩ := Y.newCold hexec (own := own) (C := cls) (index := ik) (n := 6) hown' hk' hins hini'
    (g := F0 m pc ls rest) rfl (by rw [hb]; exact d0) (Nat.le_refl _) (Nat.le_refl _)
  generalize hT1 : (T.setVm vm₁).pushCell { cls := cX, slots := kX.instanceTypes.map defaultValue, vm := .none } = T1 at X₁ st1
  have hcat : (Value.ref T.heap.size).category = 1 := rfl
  have hcellA : T1.heap[T.heap.size]? = some (freshCell cX kX) := by rw [← hT1]; exact State.heap_pushCell_size _ _
  have d3' : decode c.code (pc + 3) = .ok (.dup, 1) := by rw [hb]; exact d3
  have d4' : decode c.code (pc + 4) = .ok (.ldc_w is, 3) := by rw [hb]; exact d4
  have hstr' : vk_R own is text sa s' := vk_R.warm hW0 hstr
  obtain ⟨U, hsteps, hrun, hend, hW, hsame, ce, hce, hO⟩ := X₁.ctorThrowS hexec htr (own := own) (cls := cls) (names := names) (ic := ic) hown' hcls hnames h (fun x hx => nomatch hx) hfX hkX hcellA (by rw [hhp, hT]; exact Nat.le_refl _) (msg := .ref sa) rfl
    (g := { method := m, pc := pc + 7, locals := ls, stack := .ref sa :: .ref T.heap.size :: .ref T.heap.size :: rest, locked := none }) rfl hsize rfl rfl (rest := rest) rfl
    (by rw [hb]; exact d7) (by rw [hb]; exact d10) hout hRframes (by simp only [List.map_cons, List.sum_cons, hcat]; omega) hlocks
  obtain ⟨f1, f2⟩ := vx_frame hsame
  rw [hhp] at f1 f2
  have hWs : s.WarmedH U.vm := State.WarmedH.trans hW0 hW
  have hcl : s.vm.findClass cls = some ce.cls := by
    have h9 := hO.cls
    rw [hvm] at h9
    exact h9
  have hall : s.sameButNew ({ U with vm := s.vm } : State) locs mc ms := by
    subst hA
    obtain ⟨e1, e2⟩ := hsame
    rw [State.setFrames_setFrames] at e1
    have h2 : (T.setVm s.vm).sameButNew ({ U with vm := s.vm } : State) [] (0 + 1) (0 + 6) := ⟨e1, e2⟩
    have h3 := X.same.trans h2
    rw [List.append_nil] at h3
    exact h3.mono hc hs
  refine ⟨U, ?_, .threw T.heap.size, hrun, hend, Or.inr ⟨T.heap.size, rfl, cls, ce, locs, hx U hWs.alike f1 (fun q hq => f2 q hq (fun z hz => nomatch hz)), hce, hO.vm, hcl, hWs, hall, hf⟩⟩
  refine st1 _ ?_
  show Steps p.tables e below (T1.setTop { method := m, pc := pc + 3, locals := ls, stack := .ref T.heap.size :: rest, locked := none }) _
  jvm_step X₁.here [X₁.here.top, hexec, d3', Value.category]
  exact X₁.ldcStringW hexec (own := own) (text := text) (index := is) (a := sa) hown' hstr'.1 hstr'.2
    (g := { method := m, pc := pc + 4, locals := ls, stack := .ref T.heap.size :: .ref T.heap.size :: rest, locked := none }) rfl d4' _ hsteps
end Ends
section Bodies
variable {l : Launch}
theorem vx_ofW {y : MethodName} {ws ws' : List Cond} {rm : Room} {Pc : Array Value → State → Prop} {Qc : Array Value → State → Outcome → State → Prop} {XC : String → State → State → Prop} {mc ms : Nat} {free : Addr → Prop} {cc : ByteArray} {maxL : Nat} {ret : Option FieldType}
    (hy : plainName y.cls = true) (hw : ws = Cond.code y cc maxL ret :: ws')
    (body : ∀ p e s m args below meth c s₁, BodyLoose p l y (headSpec ws rm) cc maxL ret e s m args below meth c s₁ → c.maxLocals = maxL → (∀ x ∈ c.exceptionTable.toList, False) → Pc args s →
      W p l e (headSpec ws rm).room s m args below meth c s.heap [] 0 0 (vx_MQ below Qc XC args s mc ms free) (entryFrame m args maxL)) : vx_Met l y ws rm Pc Qc XC mc ms free := by
  refine MetFree.of_bodyS (code := cc) (maxLocals := maxL) (ret := ret) hy ?_ ?_
  · intro args s m h hn
    obtain ⟨meth, c, h1, h2, h3, h4, h5, h6, -, -⟩ := Cond.code_spec hn (atoms_spec (ws := ws) h _ (by rw [hw]; exact List.mem_cons_self))
    exact ⟨meth, c, h1, h2, h3, h4, h5, h6⟩
  · intro p e s m args below meth c s₁ B hml hP _
    have hh0 : s₁.heap = s.heap := by rw [B.state]; rfl
    have ht : ∀ x ∈ c.exceptionTable.toList, False := by
      obtain ⟨meth9, c9, h1, h2, -, -, -, -, h7, -⟩ := Cond.code_spec B.named (atoms_spec (ws := ws) B.pre _ (by rw [hw]; exact List.mem_cons_self))
      cases Option.some.inj (h1.symm.trans B.method)
      cases Option.some.inj (h2.symm.trans (Stand.of_body B).code)
      intro x hx
      rw [Array.isEmpty_iff.mp h7] at hx
      cases hx
    obtain ⟨t, a1, o, b1, b2, b3⟩ := body p e s m args below meth c s₁ B hml ht hP s₁ hh0 (Stand.of_body B)
    exact ⟨t, o, a1, b1, b2, b3⟩
/-- the table of a body with handlers -/
theorem vx_table {p : Program} {x y : MethodName} {S : Spec} {cc bytes : ByteArray} {maxL maxL' : Nat} {ret ret' : Option FieldType} {e : Env} {s s₁ : State} {m : MethodId} {args : Array Value} {below : List Frame} {meth : Method} {c : Code} {hh : List (Nat × Nat × Nat × Nat)}
    (B : BodyLoose p l y S cc maxL ret e s m args below meth c s₁) (h : (Cond.codeWith y bytes maxL' ret' hh).before args s = true) : c.exceptionTable.toList = tableOf hh := by
  obtain ⟨m9, meth9, c9, hn9, h1, h2, -, -, h6, -⟩ := Cond.codeWith_spec h
  cases Option.some.inj (hn9.symm.trans B.named)
  cases Option.some.inj (h1.symm.trans B.method)
  cases Option.some.inj (h2.symm.trans (Stand.of_body B).code)
  rw [← h6, table_eq]
end Bodies
end VXA
/-! ===== END ===== -/
/-! ===== BEGIN a static call of a method with an exception table ===== -/
section VXS
variable {p : Program} {l : Launch} {e : Env} {R : Room} {s : State} {m : MethodId} {args : Array Value} {below : List Frame} {meth : Method} {c : Code} {T : State} {H : Heap} {locs : List Loc} {cells slots : Nat}
abbrev vx_CSW (R : Room) (s : State) (args : Array Value) (own : String) (index : Nat) (y : MethodName) (bytes : ByteArray) (maxL : Nat) (ret : Option FieldType) (hh : List (Nat × Nat × Nat × Nat)) (ws : List Cond) (rm : Room) (mc ms n : Nat) : Prop :=
  (rm.cells = mc ∧ rm.slots = ms ∧ rm.frames + 1 ≤ R.frames ∧ 8 + (maxL + 11) + rm.locals ≤ R.locals ∧ (∀ w ∈ ws, ∀ (a' : Array Value) (U : State), s.WarmedH U.vm → w.before a' U = true) ∧ Cond.codeWith y bytes maxL ret hh ∈ ws) ∧
  (Cond.codeWith y bytes maxL ret hh).before args s = true ∧ (Cond.initialized y.cls).before args s = true ∧ (y.cls ≠ "java/lang/invoke/MethodHandle" ∧ y.cls ≠ "java/lang/invoke/VarHandle") ∧
  (∀ sig, parseMethodDescriptor y.desc = some sig → n = sig.parameters.length) ∧ (Cond.methodLink own index y).before args s = true ∧ (Cond.static y).before args s = true
theorem vx_cwSW {own : String} {index maxL mc ms : Nat} {y : MethodName} {bytes : ByteArray} {ret : Option FieldType} {hh : List (Nat × Nat × Nat × Nat)} {Ts ws ws' : List Cond} {rm : Room} (n : Nat) (ht : ∀ w ∈ Ts, w.before args s = true) (hT : GoodIn Ts (va_wsS own index y ws)) (hw : ws = Cond.codeWith y bytes maxL ret hh :: ws') (hrc : rm.cells = mc) (hrs : rm.slots = ms)
    (hd : y.cls ≠ "java/lang/invoke/MethodHandle" ∧ y.cls ≠ "java/lang/invoke/VarHandle" ∧ (parseMethodDescriptor y.desc).map (fun d => d.parameters.length) = some n) (hR : rm.frames + 1 ≤ R.frames ∧ 8 + (maxL + 11) + rm.locals ≤ R.locals) :
    vx_CSW R s args own index y bytes maxL ret hh ws rm mc ms n := by
  have ok : ∀ w ∈ va_wsS own index y ws, w.before args s = true := fun w h => ht w (hT w h).1
  have hG : GoodIn Ts ws := fun w h => hT w (by unfold va_wsS; exact List.mem_append_right _ h)
  have hc : Cond.codeWith y bytes maxL ret hh ∈ ws := by rw [hw]; exact List.mem_cons_self
  refine ⟨⟨hrc, hrs, hR.1, hR.2, pay_in ht hG, hc⟩, ht _ (hG _ hc).1, ok _ (by simp [va_wsS]), ⟨hd.1, hd.2.1⟩, fun sig h => ?_, ok _ (by simp [va_wsS]), ok _ (by simp [va_wsS])⟩
  have h2 := hd.2.2
  rw [h] at h2
  exact (Option.some.inj h2).symm
theorem vx_callSW (X : Stand p l e R s m args below meth c T locs cells slots) (hexec : p.tables.exec = Jvm.exec) {own : String} {index : Nat} {y : MethodName} {bytes : ByteArray} {maxL : Nat} {ret : Option FieldType} {hh : List (Nat × Nat × Nat × Nat)}
    (hown : s.vm.findClass own = some m.cls) (hlink : (Cond.methodLink own index y).before args s = true) (hstat : (Cond.static y).before args s = true) (hinit : (Cond.initialized y.cls).before args s = true)
    (hcode : (Cond.codeWith y bytes maxL ret hh).before args s = true) (hy : y.cls ≠ "java/lang/invoke/MethodHandle" ∧ y.cls ≠ "java/lang/invoke/VarHandle")
    {W9 : Nat} {Pre : Pt → Array Value → Prop} {Post : Pt → Array Value → Option Value → Pt → Prop} (hK : Back l R p e below s args y 3 W9 Pre Post)
    {g : JFrame} (hg : g.method = m) (hsize : g.locals.size = c.maxLocals) {argsL rest : List Value} (hlen : ∀ sig, parseMethodDescriptor y.desc = some sig → argsL.length = sig.parameters.length)
    (hstack : g.stack = argsL.reverse ++ rest) (hW : 2 * g.monitorRoom + (rest.map fun v => v.category).sum ≤ W9) (hdg : decode c.code g.pc = .ok (.invokestatic index, 3))
    (hpre : ∀ vm₁, s.WarmedH vm₁ → Pre ⟨T.setVm vm₁, locs, cells, slots⟩ argsL.toArray) :
    ∃ (v : Option Value) (vm₁ : Vm) (B : Pt), s.WarmedH vm₁ ∧ Stand p l e R s m args below meth c B.U B.locs B.cells B.slots ∧ Post ⟨T.setVm vm₁, locs, cells, slots⟩ argsL.toArray v B ∧
      ∀ target, Steps p.tables e below (B.U.setTop { g with pc := g.pc + 3, stack := v.toList ++ rest }) target → Steps p.tables e below (T.setTop g) target := by
  obtain ⟨mk, methM, cM, hnamed, hmethM, -, -, -, -, -, -, hsigM⟩ := Cond.codeWith_spec hcode
  have hstatic : methM.isStatic = true := Cond.static_spec hnamed hmethM hstat
  obtain ⟨kP, hkP, -⟩ := className_of_methodNamed hnamed
  have hinitP : kP.init = .initialized := Cond.initialized_spec (findClass_of_methodNamed hnamed) hkP hinit
  obtain ⟨vm₁, X₁, hstep₁⟩ := X.invokestatic hexec hown hlink hnamed hmethM hstatic hkP hinitP hy (g := g) hg (argsL := argsL) (rest := rest) (hlen _ hsigM) hstack hdg
  obtain ⟨v, B, X', hpost, hsteps⟩ := hK m meth c ⟨T.setVm vm₁, locs, cells, slots⟩ { g with stack := rest } (.invokestatic index) mk argsL.toArray X₁ hg hsize hdg hW (X₁.named hnamed) (hpre vm₁ X₁.warmed)
  exact ⟨v, vm₁, B, X₁.warmed, X', hpost, fun target h => hstep₁ _ fun acts => by rw [doInvoke_state]; exact hsteps.trans h⟩
theorem vx_runSW {y : MethodName} {bytes cc : ByteArray} {maxL nL mc ms n index : Nat} {ret : Option FieldType} {hh : List (Nat × Nat × Nat × Nat)} {ws : List Cond} {rm : Room} {Pc : Array Value → State → Prop} {Qc : Array Value → State → Outcome → State → Prop} {free : Addr → Prop} {Ts : List Cond} {own : String} {As rest : List Value} {g : JFrame}
    (S : CallFix p m c cc nL s args Ts own) (hM : Met l y ws rm Pc Qc mc ms free) (cw : vx_CSW R s args own index y bytes maxL ret hh ws rm mc ms n) (hp : PreS s H Pc As)
    (hg : g.method = m) (hn : As.length = n) (hsize : g.locals.size = nL) (hstack : g.stack = As.reverse ++ rest) (hW : 2 * g.monitorRoom + (rest.map fun v => v.category).sum ≤ 8) (hdg : decode cc g.pc = .ok (.invokestatic index, 3)) (hf : cells + mc ≤ R.cells ∧ slots + ms ≤ R.slots) :
    va_Run p l e R s m args below meth c H locs cells slots mc ms g rest (Qc As.toArray) (free) := by
  obtain ⟨⟨hrc, hrs, hfr, hlo, hws, hcw⟩, hcode, hini, hy, hlen, hl, hstt⟩ := cw
  have hK : Back l R p e below s args y 3 8 (PreOf R mc ms Pc) (PostOf Qc mc ms free) := va_backW (hh := hh) (bytes := bytes) (maxL := maxL) (ret := ret) hM hp.1 hrc hrs hfr hlo hws hcw (fun a' U hW => word_at hW (Or.inl (by first | rfl | simp [Cond.onTables, Cond.keeps, Cond.steady])) hini)
  obtain ⟨hx, hb, hml, ho, -⟩ := S
  intro T hT X
  obtain ⟨v, vm₁, ⟨U', l2, c2, s2⟩, hW₁, X', ⟨g', mk, t, L, e1, e2, hq, h1, hL, h2, h3⟩, st⟩ := vx_callSW X hx (hh := hh) (bytes := bytes) (maxL := maxL) (ret := ret) ho hl hstt hini hcode hy hK hg (hsize.trans hml.symm) (argsL := As) (rest := rest) (fun sig h => hn.trans (hlen sig h)) hstack hW (by rw [hb]; exact hdg)
    (fun vm₁ hW₁ => ⟨hf.1, hf.2, hp.2 (T.setVm vm₁) hT hW₁⟩)
  dsimp only [Pt.U, Pt.locs, Pt.cells, Pt.slots] at X' e1 e2 h1 h2 h3 st
  subst h1; subst h2; subst h3
  exact ⟨v, (T.setVm vm₁).calling g' mk As.toArray, t, U', L, hT, X', hL, e1, e2, hq, st⟩
/-- not caught here, past rows that name other classes: it goes on to the caller -/
theorem vx_outP {p : Program} {l : Launch} {e : Env} {R : Room} {s : State} {m : MethodId} {args : Array Value} {below : List Frame} {meth : Method} {c : Code} {H : Heap} {locs : List Loc} {cells slots : Nat} {free : Addr → Prop} {ls : Array Slot} {rest : List Value} {Qc : Array Value → State → Outcome → State → Prop} {XC : String → State → State → Prop}
    {pc : Nat} {own E : String} {ce : Cell} {q : Addr} {mc ms : Nat} (hown : s.vm.findClass own = some m.cls) (hlocks : meth.locks = false)
    (hpass : ∀ z ∈ c.exceptionTable.toList, covers z pc = false ∨ (z.catchType ≠ 0 ∧ ∃ nm : String, (Cond.classLink own z.catchType nm).before args s = true ∧ va_Nc E nm s)) (hcell : H[q]? = some ce) (hv : ce.vm = .none) (hcl : s.vm.findClass E = some ce.cls)
    (hx : ∀ t : State, t.heap = H → s.vm.Alike t.vm → XC E s t) (hf : ∀ z ∈ locs, free z.base) (hc : cells ≤ mc) (hs : slots ≤ ms) :
    vx_W p l e R s m args below meth c H locs cells slots (vx_MQ below Qc XC args s mc ms free) (F0 m pc ls rest) q := by
  intro T hT X
  have hpl : e.platform.magicAccessors = ({} : Platform).magicAccessors := by rw [X.admits.platform]
  obtain ⟨vm', hW', X', st⟩ := X.outThrough hlocks q (g := F0 m pc ls rest) rfl rfl rfl (cell := ce) (by rw [hT]; exact hcell) (by rw [hv]; rfl)
    (by obtain ⟨k9, h9, -⟩ := Vm.findClass_spec hcl; exact ⟨k9, h9⟩) (fun z hz => by
      rcases hpass z hz with h | ⟨hz0, nm, hl1, hn1⟩
      · exact Or.inl h
      · obtain ⟨c6, hc6, hcl6⟩ := Cond.classLink_spec hown hl1 e.platform hpl
        obtain ⟨a8, b8, h1, h2, h3⟩ := hn1
        cases Option.some.inj (h1.symm.trans hcl)
        cases Option.some.inj (h2.symm.trans hc6)
        exact Or.inr ⟨hz0, _, hcl6, h3⟩)
  obtain ⟨g₀, hfr⟩ := X'.frames_eq
  have hcell9 : ((T.setVm vm').setFrames (.throwing q :: below)).heap[q]? = some ce := by
    show T.heap[q]? = some ce
    rw [hT]; exact hcell
  have hend : Ended ((T.setVm vm').setFrames (.throwing q :: below)) below (.threw q) := State.frames_setFrames _ (State.cur_lt_of_frames hfr)
  refine ⟨(T.setVm vm').setFrames (.throwing q :: below), ?_, .threw q, X'.here.running, hend, Or.inr ⟨q, rfl, E, ce, locs, hx _ hT (X'.ends _).1.alike, hcell9, hv, hcl, (X'.ends _).1, (X'.ends _).2.mono hc hs, hf⟩⟩
  rw [X.pushThrowing_eq]
  exact st
/-- a thing of a world lies in the heap -/
theorem vx_lt {D : va_G} {cl : List vw_C} {ws : va_W} {H1 : Heap} (h : va_P D cl ws H1) {k : Nat} {q : Nat × va_E} (hk : ws[k]? = some q) : q.1 < H1.size := (h k q hk).lt
end VXS
/-! ===== END ===== -/
/-! ===== BEGIN methods with a table of their own: called by a name, returning or throwing ===== -/
section VXH
/-! vx_backW, vx_callVX, vx_callSX, vx_callVW, vx_runVW, vx_runVX, vx_runSX, vx_ofWH follow the same proofs as their sisters above (Free/Laws.lean, Shelf42/LK1.lean); vx_outP calls Shelf42/NT130.lean (outThrough). -/
section
variable {l : Launch} {R : Room} {p : Program} {e : Env} {below : List Frame} {s : State} {sargs : Array Value} {y : MethodName} {len W9 : Nat}
theorem vx_backW {ws : List Cond} {rm : Room} {Pc : Array Value → State → Prop} {Qc : Array Value → State → Outcome → State → Prop} {XC : String → State → State → Prop} {mc ms : Nat} {free : Addr → Prop} {bytes : ByteArray} {maxL : Nat} {ret : Option FieldType} {hh : List (Nat × Nat × Nat × Nat)}
    (hM : vx_Met l y ws rm Pc Qc XC mc ms free) (hblind : FrameBlind Pc) (hrc : rm.cells = mc) (hrs : rm.slots = ms)
    (hframes : rm.frames + 1 ≤ R.frames) (hlocals : W9 + (maxL + 11) + rm.locals ≤ R.locals)
    (hws : ∀ w ∈ ws, ∀ a' U, s.WarmedH U.vm → w.before a' U = true) (hcode : Cond.codeWith y bytes maxL ret hh ∈ ws) (hinit : ∀ a' U, s.WarmedH U.vm → (Cond.initialized y.cls).before a' U = true) :
    vx_Back l R p e below s sargs y len W9 (PreOf R mc ms Pc) (PostOf Qc mc ms free) (vx_Post XC mc ms free) := by
  intro m meth c A g ig mk a X hg hsize hdg hW hn hp
  have h1 : (headSpec ws rm).pre.before a A.U = true := atoms_intro fun w hw => hws w hw _ _ X.warmed
  have h2 : (Cond.codeWith y bytes maxL ret hh).before a A.U = true := hws _ hcode _ _ X.warmed
  have h3 : (Cond.initialized y.cls).before a A.U = true := hinit _ _ X.warmed
  have h4 : A.cells + (headSpec ws rm).room.cells ≤ R.cells := by rw [show (headSpec ws rm).room.cells = mc from hrc]; exact hp.1
  have h5 : A.slots + (headSpec ws rm).room.slots ≤ R.slots := by rw [show (headSpec ws rm).room.slots = ms from hrs]; exact hp.2.1
  have hPc : Pc a (A.U.calling g mk a) := hblind _ _ _ _ hp.2.2
  obtain ⟨U, Ls, c0, s0⟩ := A
  dsimp only [Pt.U, Pt.locs, Pt.cells, Pt.slots] at h1 h2 h3 h4 h5 X hn hPc ⊢
  obtain ⟨m9, methY, cY, hn9, hmY, hcY, -, hlY, -⟩ := Cond.codeWith_spec h2
  cases Option.some.inj (hn9.symm.trans hn)
  obtain ⟨kY, hkY, -⟩ := className_of_methodNamed hn
  have hinitY : kY.init = .initialized := Cond.initialized_spec (findClass_of_methodNamed hn) hkY h3
  have h : At U g.method c below := by rw [hg]; exact X.here
  have hlocals9 : W9 + (maxL + 11) + (headSpec ws rm).room.locals ≤ R.locals := hlocals
  have happ : (headSpec ws rm).appliesLoose y e.platform (U.calling g mk a) = true :=
    Spec.appliesLoose_calling (g := g) h hdg hn hkY hinitY
      (X.room_calling (g := g) (R' := (headSpec ws rm).room) hsize hmY hcY hframes (by rw [hlY]; omega) h4 h5) h1
  obtain ⟨mid, hmid⟩ := h.above
  have hfr : (U.setTop g).frames = (.java g :: mid) ++ below := by rw [State.frames_setTop' g h.top, hmid]; rfl
  obtain ⟨o, s₂, hsteps, -, hend, hq⟩ := Steps.callFree hM p X.admits X.cas X.clock (acts := []) hfr happ hPc trivial
  have hq' : vx_Q Qc XC mc ms free a (U.calling g mk a) o s₂ := hq
  rw [State.frames_setTop' g h.top] at hend
  obtain ⟨g₀, hg0⟩ := Option.isSome_iff_exists.mp h.top
  obtain ⟨r, hr⟩ := State.topJava?_eq_some.mp hg0
  have hr' : (({ U with heap := s₂.heap, slotsUsed := s₂.slotsUsed } : State).setVm s₂.vm).frames = .java g₀ :: r := hr
  rcases hq' with ⟨hqc, L, hfe, hL⟩ | ⟨q, rfl, E, ce, L, hx, hce, hcv, hcl, hW₂, hsm, hL⟩
  · obtain ⟨⟨v, rfl⟩, hW₂, e2, q2, q3, q4, q5, q6⟩ := id hfe
    have e3 : s₂ = ({ (U.calling g mk a).setFrames s₂.frames with heap := s₂.heap, slotsUsed := s₂.slotsUsed } : State).setVm s₂.vm := by
      have : s₂ = ({ s₂ with vm := (U.calling g mk a).vm } : State).setVm s₂.vm := rfl
      rw [e2] at this
      exact this
    obtain ⟨c₂, i₂, len₂, hc₂, hd₂, hf₂⟩ := hend
    have hW' : U.WarmedH s₂.vm := hW₂
    have hcc : c₂ = c := by
      have h1 : s₂.code? g.method = U.code? g.method := by
        rw [State.code?_eq, State.code?_eq, hW'.alike.method?]
      exact Option.some.inj (hc₂.symm.trans (h1.trans h.code))
    subst hcc
    have hlen : len₂ = len := by rw [hdg] at hd₂; cases hd₂; rfl
    subst hlen
    have hs₂ : s₂ = (({ U with heap := s₂.heap, slotsUsed := s₂.slotsUsed } : State).setVm s₂.vm).setTop { g with pc := g.pc + len₂, stack := v.toList ++ g.stack } := by
      refine e3.trans ?_
      rw [hf₂, State.calling_eq h.top, State.setFrames_setFrames, State.setTop_of_frames _ hr', hr]
      rfl
    have hsame : U.sameButNew ({ U with heap := s₂.heap, slotsUsed := s₂.slotsUsed } : State) L mc ms := by
      refine ⟨?_, q2, q3, q4, q5, q6⟩
      obtain ⟨t, ht, -⟩ := State.frames_cons hr
      show ({ U with heap := s₂.heap, slotsUsed := s₂.slotsUsed } : State) = { U.setFrames U.frames with heap := s₂.heap, slotsUsed := s₂.slotsUsed }
      rw [State.setFrames_self ht]
    subst hg
    refine Or.inl ⟨v, ⟨(({ U with heap := s₂.heap, slotsUsed := s₂.slotsUsed } : State).setVm s₂.vm), Ls ++ L, c0 + mc, s0 + ms⟩,
      ⟨X.admits, X.cas, X.clock, X.frames, X.room, X.hears, X.method, X.code, (X.here.setHeapUsed s₂.heap s₂.slotsUsed).setVm hW'.alike, X.tail, State.WarmedH.trans X.warmed hW', X.limits, X.bytes, X.same.trans (hsame.setVm s.vm)⟩,
      ⟨g, mk, s₂, L, rfl, rfl, hqc, rfl, hL, rfl, rfl⟩, ?_⟩
    show Steps p.tables e below _ ((({ U with heap := s₂.heap, slotsUsed := s₂.slotsUsed } : State).setVm s₂.vm).setTop { g with pc := g.pc + len₂, stack := v.toList ++ g.stack })
    rw [← hs₂]
    exact hsteps
  · obtain ⟨e2, q2, q3, q4, q5, q6⟩ := id hsm
    have e3 : s₂ = ({ (U.calling g mk a).setFrames s₂.frames with heap := s₂.heap, slotsUsed := s₂.slotsUsed } : State).setVm s₂.vm := by
      have : s₂ = ({ s₂ with vm := (U.calling g mk a).vm } : State).setVm s₂.vm := rfl
      rw [e2] at this
      exact this
    have hf₂ : s₂.frames = .throwing q :: .java g :: U.frames.tail := hend
    have hW' : U.WarmedH s₂.vm := hW₂
    have hs₂ : s₂ = ((({ U with heap := s₂.heap, slotsUsed := s₂.slotsUsed } : State).setVm s₂.vm).setTop g).pushFrame (.throwing q) := by
      refine e3.trans ?_
      rw [hf₂, State.calling_eq h.top, State.setFrames_setFrames, State.pushFrame, State.frames_setTop _ hr', State.setTop_of_frames _ hr', State.setFrames_setFrames, hr]
      rfl
    have hsame : U.sameButNew ({ U with heap := s₂.heap, slotsUsed := s₂.slotsUsed } : State) L mc ms := by
      refine ⟨?_, q2, q3, q4, q5, q6⟩
      obtain ⟨t, ht, -⟩ := State.frames_cons hr
      show ({ U with heap := s₂.heap, slotsUsed := s₂.slotsUsed } : State) = { U.setFrames U.frames with heap := s₂.heap, slotsUsed := s₂.slotsUsed }
      rw [State.setFrames_self ht]
    subst hg
    refine Or.inr ⟨q, ⟨(({ U with heap := s₂.heap, slotsUsed := s₂.slotsUsed } : State).setVm s₂.vm), Ls ++ L, c0 + mc, s0 + ms⟩,
      ⟨X.admits, X.cas, X.clock, X.frames, X.room, X.hears, X.method, X.code, (X.here.setHeapUsed s₂.heap s₂.slotsUsed).setVm hW'.alike, X.tail, State.WarmedH.trans X.warmed hW', X.limits, X.bytes, X.same.trans (hsame.setVm s.vm)⟩,
      ⟨g, mk, s₂, L, E, ce, rfl, rfl, hx, hce, hcv, hcl, rfl, hL, rfl, rfl⟩, ?_⟩
    show Steps p.tables e below _ (((({ U with heap := s₂.heap, slotsUsed := s₂.slotsUsed } : State).setVm s₂.vm).setTop g).pushFrame (.throwing q))
    rw [← hs₂]
    exact hsteps
end
variable {p : Program} {l : Launch} {e : Env} {R : Room} {s : State} {m : MethodId} {args : Array Value} {below : List Frame} {meth : Method} {c : Code} {T : State} {H : Heap} {locs : List Loc} {cells slots : Nat}
theorem vx_callVX (X : Stand p l e R s m args below meth c T locs cells slots) (hexec : p.tables.exec = Jvm.exec) {own C : String} {index : Nat} {y : MethodName} {bytes : ByteArray} {maxL : Nat} {ret : Option FieldType} {hh : List (Nat × Nat × Nat × Nat)}
    (hown : s.vm.findClass own = some m.cls) (hlink : (Cond.methodLink own index y).before args s = true) (hinst : (Cond.instanceMethod y).before args s = true) (hsel : (Cond.selects C y y).before args s = true)
    (hcode : (Cond.codeWith y bytes maxL ret hh).before args s = true) (hy : y.cls ≠ "java/lang/invoke/MethodHandle" ∧ y.cls ≠ "java/lang/invoke/VarHandle")
    {W9 : Nat} {Pre : Pt → Array Value → Prop} {Post : Pt → Array Value → Option Value → Pt → Prop} {PostX : Pt → Array Value → Addr → Pt → Prop} (hK : vx_Back l R p e below s args y 3 W9 Pre Post PostX)
    {b : Addr} {cellB : Cell} (hcell : T.heap[b]? = some cellB) (hobj : cellB.vm.isStatics = false) (hcls : s.vm.findClass C = some cellB.cls)
    {g : JFrame} (hg : g.method = m) (hsize : g.locals.size = c.maxLocals) {argsL rest : List Value} (hlen : ∀ sig, parseMethodDescriptor y.desc = some sig → argsL.length = sig.parameters.length)
    (hstack : g.stack = argsL.reverse ++ .ref b :: rest) (hW : 2 * g.monitorRoom + (rest.map fun v => v.category).sum ≤ W9) (hdg : decode c.code g.pc = .ok (.invokevirtual index, 3))
    (hpre : ∀ vm₁, s.WarmedH vm₁ → Pre ⟨T.setVm vm₁, locs, cells, slots⟩ (Value.ref b :: argsL).toArray) :
    (∃ (v : Option Value) (vm₁ : Vm) (B : Pt), s.WarmedH vm₁ ∧ Stand p l e R s m args below meth c B.U B.locs B.cells B.slots ∧ Post ⟨T.setVm vm₁, locs, cells, slots⟩ (Value.ref b :: argsL).toArray v B ∧
      ∀ target, Steps p.tables e below (B.U.setTop { g with pc := g.pc + 3, stack := v.toList ++ rest }) target → Steps p.tables e below (T.setTop g) target) ∨
    (∃ (q : Addr) (vm₁ : Vm) (B : Pt), s.WarmedH vm₁ ∧ Stand p l e R s m args below meth c B.U B.locs B.cells B.slots ∧ PostX ⟨T.setVm vm₁, locs, cells, slots⟩ (Value.ref b :: argsL).toArray q B ∧
      Steps p.tables e below (T.setTop g) ((B.U.setTop { g with stack := rest }).pushFrame (.throwing q))) := by
  obtain ⟨mk, methM, hnamed, hmethM, hstM, habM⟩ := Cond.instanceMethod_spec hinst
  obtain ⟨m8, methM', cM, hn8, hmethM', -, -, -, -, -, -, hsigM⟩ := Cond.codeWith_spec hcode
  cases Option.some.inj (hn8.symm.trans hnamed)
  cases hmethM.symm.trans hmethM'
  obtain ⟨c2, r2, m2, q1, q2, q3, q4, kP, hkP, hkPi⟩ := Cond.selects_spec hsel
  cases hcls.symm.trans q1
  cases (State.methodFound?_of_named hnamed hy).symm.trans q2
  cases hnamed.symm.trans q3
  have hselP : selectMethod e.platform s.vm cellB.cls mk = .method mk := by rw [Launch.admits_selectMethod X.admits]; exact q4
  obtain ⟨vm₁, X₁, hstep₁⟩ := X.invokevirtual hexec hown hlink hnamed hmethM hstM hkP hkPi hy (a := b) (cell := cellB) hcell
    (fun z h => by rw [h] at hobj; cases hobj) hselP hmethM habM hkP hkPi (g := g) hg (argsL := argsL) (rest := rest) (hlen _ hsigM) hstack hdg
  rcases hK m meth c ⟨T.setVm vm₁, locs, cells, slots⟩ { g with stack := rest } (.invokevirtual index) mk (Value.ref b :: argsL).toArray X₁ hg hsize hdg hW (X₁.named hnamed) (hpre vm₁ X₁.warmed) with ⟨v, B, X', hpost, hsteps⟩ | ⟨q, B, X', hpost, hsteps⟩
  · exact Or.inl ⟨v, vm₁, B, X₁.warmed, X', hpost, fun target h => hstep₁ _ fun acts => by rw [doInvoke_state]; exact hsteps.trans h⟩
  · exact Or.inr ⟨q, vm₁, B, X₁.warmed, X', hpost, hstep₁ _ fun acts => by rw [doInvoke_state]; exact hsteps⟩
theorem vx_callSX (X : Stand p l e R s m args below meth c T locs cells slots) (hexec : p.tables.exec = Jvm.exec) {own : String} {index : Nat} {y : MethodName} {bytes : ByteArray} {maxL : Nat} {ret : Option FieldType} {hh : List (Nat × Nat × Nat × Nat)}
    (hown : s.vm.findClass own = some m.cls) (hlink : (Cond.methodLink own index y).before args s = true) (hstat : (Cond.static y).before args s = true) (hinit : (Cond.initialized y.cls).before args s = true)
    (hcode : (Cond.codeWith y bytes maxL ret hh).before args s = true) (hy : y.cls ≠ "java/lang/invoke/MethodHandle" ∧ y.cls ≠ "java/lang/invoke/VarHandle")
    {W9 : Nat} {Pre : Pt → Array Value → Prop} {Post : Pt → Array Value → Option Value → Pt → Prop} {PostX : Pt → Array Value → Addr → Pt → Prop} (hK : vx_Back l R p e below s args y 3 W9 Pre Post PostX)
    {g : JFrame} (hg : g.method = m) (hsize : g.locals.size = c.maxLocals) {argsL rest : List Value} (hlen : ∀ sig, parseMethodDescriptor y.desc = some sig → argsL.length = sig.parameters.length)
    (hstack : g.stack = argsL.reverse ++ rest) (hW : 2 * g.monitorRoom + (rest.map fun v => v.category).sum ≤ W9) (hdg : decode c.code g.pc = .ok (.invokestatic index, 3))
    (hpre : ∀ vm₁, s.WarmedH vm₁ → Pre ⟨T.setVm vm₁, locs, cells, slots⟩ argsL.toArray) :
    (∃ (v : Option Value) (vm₁ : Vm) (B : Pt), s.WarmedH vm₁ ∧ Stand p l e R s m args below meth c B.U B.locs B.cells B.slots ∧ Post ⟨T.setVm vm₁, locs, cells, slots⟩ argsL.toArray v B ∧
      ∀ target, Steps p.tables e below (B.U.setTop { g with pc := g.pc + 3, stack := v.toList ++ rest }) target → Steps p.tables e below (T.setTop g) target) ∨
    (∃ (q : Addr) (vm₁ : Vm) (B : Pt), s.WarmedH vm₁ ∧ Stand p l e R s m args below meth c B.U B.locs B.cells B.slots ∧ PostX ⟨T.setVm vm₁, locs, cells, slots⟩ argsL.toArray q B ∧
      Steps p.tables e below (T.setTop g) ((B.U.setTop { g with stack := rest }).pushFrame (.throwing q))) := by
  obtain ⟨mk, methM, cM, hnamed, hmethM, -, -, -, -, -, -, hsigM⟩ := Cond.codeWith_spec hcode
  have hstatic : methM.isStatic = true := Cond.static_spec hnamed hmethM hstat
  obtain ⟨kP, hkP, -⟩ := className_of_methodNamed hnamed
  have hinitP : kP.init = .initialized := Cond.initialized_spec (findClass_of_methodNamed hnamed) hkP hinit
  obtain ⟨vm₁, X₁, hstep₁⟩ := X.invokestatic hexec hown hlink hnamed hmethM hstatic hkP hinitP hy (g := g) hg (argsL := argsL) (rest := rest) (hlen _ hsigM) hstack hdg
  rcases hK m meth c ⟨T.setVm vm₁, locs, cells, slots⟩ { g with stack := rest } (.invokestatic index) mk argsL.toArray X₁ hg hsize hdg hW (X₁.named hnamed) (hpre vm₁ X₁.warmed) with ⟨v, B, X', hpost, hsteps⟩ | ⟨q, B, X', hpost, hsteps⟩
  · exact Or.inl ⟨v, vm₁, B, X₁.warmed, X', hpost, fun target h => hstep₁ _ fun acts => by rw [doInvoke_state]; exact hsteps.trans h⟩
  · exact Or.inr ⟨q, vm₁, B, X₁.warmed, X', hpost, hstep₁ _ fun acts => by rw [doInvoke_state]; exact hsteps⟩
theorem vx_callVW (X : Stand p l e R s m args below meth c T locs cells slots) (hexec : p.tables.exec = Jvm.exec) {own C : String} {index : Nat} {y : MethodName} {bytes : ByteArray} {maxL : Nat} {ret : Option FieldType} {hh : List (Nat × Nat × Nat × Nat)}
    (hown : s.vm.findClass own = some m.cls) (hlink : (Cond.methodLink own index y).before args s = true) (hinst : (Cond.instanceMethod y).before args s = true) (hsel : (Cond.selects C y y).before args s = true)
    (hcode : (Cond.codeWith y bytes maxL ret hh).before args s = true) (hy : y.cls ≠ "java/lang/invoke/MethodHandle" ∧ y.cls ≠ "java/lang/invoke/VarHandle")
    {W9 : Nat} {Pre : Pt → Array Value → Prop} {Post : Pt → Array Value → Option Value → Pt → Prop} (hK : Back l R p e below s args y 3 W9 Pre Post)
    {b : Addr} {cellB : Cell} (hcell : T.heap[b]? = some cellB) (hobj : cellB.vm.isStatics = false) (hcls : s.vm.findClass C = some cellB.cls)
    {g : JFrame} (hg : g.method = m) (hsize : g.locals.size = c.maxLocals) {argsL rest : List Value} (hlen : ∀ sig, parseMethodDescriptor y.desc = some sig → argsL.length = sig.parameters.length)
    (hstack : g.stack = argsL.reverse ++ .ref b :: rest) (hW : 2 * g.monitorRoom + (rest.map fun v => v.category).sum ≤ W9) (hdg : decode c.code g.pc = .ok (.invokevirtual index, 3))
    (hpre : ∀ vm₁, s.WarmedH vm₁ → Pre ⟨T.setVm vm₁, locs, cells, slots⟩ (Value.ref b :: argsL).toArray) :
    ∃ (v : Option Value) (vm₁ : Vm) (B : Pt), s.WarmedH vm₁ ∧ Stand p l e R s m args below meth c B.U B.locs B.cells B.slots ∧ Post ⟨T.setVm vm₁, locs, cells, slots⟩ (Value.ref b :: argsL).toArray v B ∧
      ∀ target, Steps p.tables e below (B.U.setTop { g with pc := g.pc + 3, stack := v.toList ++ rest }) target → Steps p.tables e below (T.setTop g) target := by
  obtain ⟨mk, methM, hnamed, hmethM, hstM, habM⟩ := Cond.instanceMethod_spec hinst
  obtain ⟨m8, methM', cM, hn8, hmethM', -, -, -, -, -, -, hsigM⟩ := Cond.codeWith_spec hcode
  cases Option.some.inj (hn8.symm.trans hnamed)
  cases hmethM.symm.trans hmethM'
  obtain ⟨c2, r2, m2, q1, q2, q3, q4, kP, hkP, hkPi⟩ := Cond.selects_spec hsel
  cases hcls.symm.trans q1
  cases (State.methodFound?_of_named hnamed hy).symm.trans q2
  cases hnamed.symm.trans q3
  have hselP : selectMethod e.platform s.vm cellB.cls mk = .method mk := by rw [Launch.admits_selectMethod X.admits]; exact q4
  obtain ⟨vm₁, X₁, hstep₁⟩ := X.invokevirtual hexec hown hlink hnamed hmethM hstM hkP hkPi hy (a := b) (cell := cellB) hcell
    (fun z h => by rw [h] at hobj; cases hobj) hselP hmethM habM hkP hkPi (g := g) hg (argsL := argsL) (rest := rest) (hlen _ hsigM) hstack hdg
  obtain ⟨v, B, X', hpost, hsteps⟩ := hK m meth c ⟨T.setVm vm₁, locs, cells, slots⟩ { g with stack := rest } (.invokevirtual index) mk (Value.ref b :: argsL).toArray X₁ hg hsize hdg hW (X₁.named hnamed) (hpre vm₁ X₁.warmed)
  exact ⟨v, vm₁, B, X₁.warmed, X', hpost, fun target h => hstep₁ _ fun acts => by rw [doInvoke_state]; exact hsteps.trans h⟩
abbrev vx_CVW (R : Room) (s : State) (args : Array Value) (own C : String) (index : Nat) (y : MethodName) (bytes : ByteArray) (maxL : Nat) (ret : Option FieldType) (hh : List (Nat × Nat × Nat × Nat)) (ws : List Cond) (rm : Room) (mc ms n : Nat) : Prop :=
  (rm.cells = mc ∧ rm.slots = ms ∧ rm.frames + 1 ≤ R.frames ∧ 8 + (maxL + 11) + rm.locals ≤ R.locals ∧ (∀ w ∈ ws, ∀ (a' : Array Value) (U : State), s.WarmedH U.vm → w.before a' U = true) ∧ Cond.codeWith y bytes maxL ret hh ∈ ws) ∧
  (Cond.codeWith y bytes maxL ret hh).before args s = true ∧ (Cond.initialized y.cls).before args s = true ∧ (y.cls ≠ "java/lang/invoke/MethodHandle" ∧ y.cls ≠ "java/lang/invoke/VarHandle") ∧
  (∀ sig, parseMethodDescriptor y.desc = some sig → n = sig.parameters.length) ∧ (Cond.methodLink own index y).before args s = true ∧ (Cond.instanceMethod y).before args s = true ∧ (Cond.selects C y y).before args s = true
theorem vx_cwVW {own C : String} {index maxL mc ms : Nat} {y : MethodName} {bytes : ByteArray} {ret : Option FieldType} {hh : List (Nat × Nat × Nat × Nat)} {Ts ws ws' : List Cond} {rm : Room} (n : Nat) (ht : ∀ w ∈ Ts, w.before args s = true) (hT : GoodIn Ts (wsV own index C y ws)) (hw : ws = Cond.codeWith y bytes maxL ret hh :: ws') (hrc : rm.cells = mc) (hrs : rm.slots = ms)
    (hd : y.cls = C ∧ y.cls ≠ "java/lang/invoke/MethodHandle" ∧ y.cls ≠ "java/lang/invoke/VarHandle" ∧ (parseMethodDescriptor y.desc).map (fun d => d.parameters.length) = some n) (hR : rm.frames + 1 ≤ R.frames ∧ 8 + (maxL + 11) + rm.locals ≤ R.locals) :
    vx_CVW R s args own C index y bytes maxL ret hh ws rm mc ms n := by
  obtain ⟨hC, hd⟩ := hd
  subst hC
  have ok : ∀ w ∈ wsV own index y.cls y ws, w.before args s = true := fun w h => ht w (hT w h).1
  have hG : GoodIn Ts ws := fun w h => hT w (by unfold wsV; exact List.mem_append_right _ h)
  have hc : Cond.codeWith y bytes maxL ret hh ∈ ws := by rw [hw]; exact List.mem_cons_self
  refine ⟨⟨hrc, hrs, hR.1, hR.2, pay_in ht hG, hc⟩, ht _ (hG _ hc).1, ok _ (by simp [wsV]), ⟨hd.1, hd.2.1⟩, fun sig h => ?_, ok _ (by simp [wsV]), ok _ (by simp [wsV]), ok _ (by simp [wsV])⟩
  have h2 := hd.2.2
  rw [h] at h2
  exact (Option.some.inj h2).symm
theorem vx_runVW {y : MethodName} {bytes cc : ByteArray} {maxL nL mc ms n index : Nat} {ret : Option FieldType} {hh : List (Nat × Nat × Nat × Nat)} {ws : List Cond} {rm : Room} {Pc : Array Value → State → Prop} {Qc : Array Value → State → Outcome → State → Prop} {free : Addr → Prop} {Ts : List Cond} {own C : String} {b : Addr} {As rest : List Value} {g : JFrame}
    (S : CallFix p m c cc nL s args Ts own) (hM : Met l y ws rm Pc Qc mc ms free) (cw : vx_CVW R s args own C index y bytes maxL ret hh ws rm mc ms n) (hp : PreV s H C b Pc As)
    (hg : g.method = m) (hn : As.length = n) (hsize : g.locals.size = nL) (hstack : g.stack = As.reverse ++ .ref b :: rest) (hW : 2 * g.monitorRoom + (rest.map fun v => v.category).sum ≤ 8) (hdg : decode cc g.pc = .ok (.invokevirtual index, 3)) (hf : cells + mc ≤ R.cells ∧ slots + ms ≤ R.slots) :
    va_Run p l e R s m args below meth c H locs cells slots mc ms g rest (Qc (Value.ref b :: As).toArray) free := by
  obtain ⟨⟨hrc, hrs, hfr, hlo, hws, hcw⟩, hcode, hini, hy, hlen, hl, hin, hse⟩ := cw
  have hK : Back l R p e below s args y 3 8 (PreOf R mc ms Pc) (PostOf Qc mc ms free) := va_backW (hh := hh) (bytes := bytes) (maxL := maxL) (ret := ret) hM hp.1 hrc hrs hfr hlo hws hcw (fun a' U hW => word_at hW (Or.inl (by first | rfl | simp [Cond.onTables, Cond.keeps, Cond.steady])) hini)
  obtain ⟨hx, hb, hml, ho, -⟩ := S
  obtain ⟨-, ⟨cellB, hcB, hoB, hclB⟩, hPc⟩ := hp
  intro T hT X
  obtain ⟨v, vm₁, ⟨U', l2, c2, s2⟩, hW₁, X', ⟨g', mk, t, L, e1, e2, hq, h1, hL, h2, h3⟩, st⟩ := vx_callVW X hx (C := C) (hh := hh) (bytes := bytes) (maxL := maxL) (ret := ret) ho hl hin hse hcode hy hK (by rw [hT]; exact hcB) hoB hclB hg (hsize.trans hml.symm) (argsL := As) (rest := rest) (fun sig h => hn.trans (hlen sig h)) hstack hW (by rw [hb]; exact hdg)
    (fun vm₁ hW₁ => ⟨hf.1, hf.2, hPc (T.setVm vm₁) hT hW₁⟩)
  dsimp only [Pt.U, Pt.locs, Pt.cells, Pt.slots] at X' e1 e2 h1 h2 h3 st
  subst h1; subst h2; subst h3
  exact ⟨v, (T.setVm vm₁).calling g' mk (Value.ref b :: As).toArray, t, U', L, hT, X', hL, e1, e2, hq, st⟩
section
variable {y : MethodName} {bytes cc : ByteArray} {maxL nL mc ms n index : Nat} {ret : Option FieldType} {ws : List Cond} {rm : Room} {Pc : Array Value → State → Prop} {Qc : Array Value → State → Outcome → State → Prop} {XC : String → State → State → Prop} {free : Addr → Prop} {Ts : List Cond} {own C : String} {b : Addr} {As rest : List Value} {g : JFrame}
theorem vx_runVX {hh : List (Nat × Nat × Nat × Nat)} (S : CallFix p m c cc nL s args Ts own) (hM : vx_Met l y ws rm Pc Qc XC mc ms free) (cw : vx_CVW R s args own C index y bytes maxL ret hh ws rm mc ms n) (hp : PreV s H C b Pc As)
    (hg : g.method = m) (hn : As.length = n) (hsize : g.locals.size = nL) (hstack : g.stack = As.reverse ++ .ref b :: rest) (hW : 2 * g.monitorRoom + (rest.map fun v => v.category).sum ≤ 8) (hdg : decode cc g.pc = .ok (.invokevirtual index, 3)) (hf : cells + mc ≤ R.cells ∧ slots + ms ≤ R.slots) :
    vx_Run p l e R s m args below meth c H locs cells slots mc ms g rest (Qc (Value.ref b :: As).toArray) XC free := by
  obtain ⟨⟨hrc, hrs, hfr, hlo, hws, hcw⟩, hcode, hini, hy, hlen, hl, hin, hse⟩ := cw
  have hK : vx_Back l R p e below s args y 3 8 (PreOf R mc ms Pc) (PostOf Qc mc ms free) (vx_Post XC mc ms free) := vx_backW (hh := hh) (bytes := bytes) (maxL := maxL) (ret := ret) hM hp.1 hrc hrs hfr hlo hws hcw (fun a' U hW => word_at hW (Or.inl (by first | rfl | simp [Cond.onTables, Cond.keeps, Cond.steady])) hini)
  obtain ⟨hx, hb, hml, ho, -⟩ := S
  obtain ⟨-, ⟨cellB, hcB, hoB, hclB⟩, hPc⟩ := hp
  intro T hT X
  rcases vx_callVX X hx (C := C) (hh := hh) (bytes := bytes) (maxL := maxL) (ret := ret) ho hl hin hse hcode hy hK (by rw [hT]; exact hcB) hoB hclB hg (hsize.trans hml.symm) (argsL := As) (rest := rest) (fun sig h => hn.trans (hlen sig h)) hstack hW (by rw [hb]; exact hdg)
    (fun vm₁ hW₁ => ⟨hf.1, hf.2, hPc (T.setVm vm₁) hT hW₁⟩) with ⟨v, vm₁, ⟨U', l2, c2, s2⟩, hW₁, X', ⟨g', mk, t, L, e1, e2, hq, h1, hL, h2, h3⟩, st⟩ | ⟨q, vm₁, ⟨U', l2, c2, s2⟩, hW₁, X', ⟨g', mk, t, L, E, ce, e1, e2, hq, hce, hcv, hcl, h1, hL, h2, h3⟩, st⟩
  · dsimp only [Pt.U, Pt.locs, Pt.cells, Pt.slots] at X' e1 e2 h1 h2 h3 st
    subst h1; subst h2; subst h3
    exact Or.inl ⟨v, (T.setVm vm₁).calling g' mk (Value.ref b :: As).toArray, t, U', L, hT, X', hL, e1, e2, hq, st⟩
  · dsimp only [Pt.U, Pt.locs, Pt.cells, Pt.slots] at X' e1 e2 h1 h2 h3 st hcl
    subst h1; subst h2; subst h3
    exact Or.inr ⟨q, (T.setVm vm₁).calling g' mk (Value.ref b :: As).toArray, t, U', L, E, ce, hT, X', hL, e1, e2, hq, hce, hcv, vx_cls hW₁ hcl, st⟩
theorem vx_runSX {hh : List (Nat × Nat × Nat × Nat)} (S : CallFix p m c cc nL s args Ts own) (hM : vx_Met l y ws rm Pc Qc XC mc ms free) (cw : vx_CSW R s args own index y bytes maxL ret hh ws rm mc ms n) (hp : PreS s H Pc As)
    (hg : g.method = m) (hn : As.length = n) (hsize : g.locals.size = nL) (hstack : g.stack = As.reverse ++ rest) (hW : 2 * g.monitorRoom + (rest.map fun v => v.category).sum ≤ 8) (hdg : decode cc g.pc = .ok (.invokestatic index, 3)) (hf : cells + mc ≤ R.cells ∧ slots + ms ≤ R.slots) :
    vx_Run p l e R s m args below meth c H locs cells slots mc ms g rest (Qc As.toArray) XC free := by
  obtain ⟨⟨hrc, hrs, hfr, hlo, hws, hcw⟩, hcode, hini, hy, hlen, hl, hstt⟩ := cw
  have hK : vx_Back l R p e below s args y 3 8 (PreOf R mc ms Pc) (PostOf Qc mc ms free) (vx_Post XC mc ms free) := vx_backW (hh := hh) (bytes := bytes) (maxL := maxL) (ret := ret) hM hp.1 hrc hrs hfr hlo hws hcw (fun a' U hW => word_at hW (Or.inl (by first | rfl | simp [Cond.onTables, Cond.keeps, Cond.steady])) hini)
  obtain ⟨hx, hb, hml, ho, -⟩ := S
  intro T hT X
  rcases vx_callSX X hx (hh := hh) (bytes := bytes) (maxL := maxL) (ret := ret) ho hl hstt hini hcode hy hK hg (hsize.trans hml.symm) (argsL := As) (rest := rest) (fun sig h => hn.trans (hlen sig h)) hstack hW (by rw [hb]; exact hdg)
    (fun vm₁ hW₁ => ⟨hf.1, hf.2, hp.2 (T.setVm vm₁) hT hW₁⟩) with ⟨v, vm₁, ⟨U', l2, c2, s2⟩, hW₁, X', ⟨g', mk, t, L, e1, e2, hq, h1, hL, h2, h3⟩, st⟩ | ⟨q, vm₁, ⟨U', l2, c2, s2⟩, hW₁, X', ⟨g', mk, t, L, E, ce, e1, e2, hq, hce, hcv, hcl, h1, hL, h2, h3⟩, st⟩
  · dsimp only [Pt.U, Pt.locs, Pt.cells, Pt.slots] at X' e1 e2 h1 h2 h3 st
    subst h1; subst h2; subst h3
    exact Or.inl ⟨v, (T.setVm vm₁).calling g' mk As.toArray, t, U', L, hT, X', hL, e1, e2, hq, st⟩
  · dsimp only [Pt.U, Pt.locs, Pt.cells, Pt.slots] at X' e1 e2 h1 h2 h3 st hcl
    subst h1; subst h2; subst h3
    exact Or.inr ⟨q, (T.setVm vm₁).calling g' mk As.toArray, t, U', L, E, ce, hT, X', hL, e1, e2, hq, hce, hcv, vx_cls hW₁ hcl, st⟩
end
end VXH
theorem vx_ofWH {l : Launch} {y : MethodName} {ws ws' : List Cond} {rm : Room} {Pc : Array Value → State → Prop} {Qc : Array Value → State → Outcome → State → Prop} {XC : String → State → State → Prop} {mc ms : Nat} {free : Addr → Prop} {cc : ByteArray} {maxL : Nat} {ret : Option FieldType} {hh : List (Nat × Nat × Nat × Nat)}
    (hy : plainName y.cls = true) (hw : ws = Cond.codeWith y cc maxL ret hh :: ws')
    (body : ∀ p e s m args below meth c s₁, BodyLoose p l y (headSpec ws rm) cc maxL ret e s m args below meth c s₁ → c.maxLocals = maxL → Pc args s →
      W p l e (headSpec ws rm).room s m args below meth c s.heap [] 0 0 (vx_MQ below Qc XC args s mc ms free) (entryFrame m args maxL)) : vx_Met l y ws rm Pc Qc XC mc ms free := by
  refine MetFree.of_bodyS (code := cc) (maxLocals := maxL) (ret := ret) hy ?_ ?_
  · intro args s m h hn
    obtain ⟨m9, meth, c, hn9, h1, h2, h3, h4, -, h5, h6, -⟩ := Cond.codeWith_spec (atoms_spec (ws := ws) h _ (by rw [hw]; exact List.mem_cons_self))
    cases hn.symm.trans hn9
    exact ⟨meth, c, h1, h2, h3, h4, h5, h6⟩
  · intro p e s m args below meth c s₁ B hml hP _
    have hh0 : s₁.heap = s.heap := by rw [B.state]; rfl
    obtain ⟨t, a1, o, b1, b2, b3⟩ := body p e s m args below meth c s₁ B hml hP s₁ hh0 (Stand.of_body B)
    exact ⟨t, o, a1, b1, b2, b3⟩
/-! ===== END ===== -/
end
section
/-! names: classes, fields, methods, rooms, the one list of words -/
def R_B : String := "BitSolver"
def F_B : u_T := fun k => match k with
  | 0 => ("BitSolver", "sets", "LBitSolver$Sets;", true)
  | 1 => ("BitSolver", "circuits", "LBitSolver$Circuits;", true)
  | 2 => ("BitSolver", "variableWidths", "[I", true)
  | 3 => ("BitSolver", "variablePlaces", "[I", true)
  | 4 => ("BitSolver", "variableCount", "I", false)
  | 5 => ("BitSolver", "bitCount", "I", false)
  | 6 => ("BitSolver", "termWidths", "[I", true)
  | 7 => ("BitSolver", "termCount", "I", false)
  | 8 => ("BitSolver", "formulaCount", "I", false)
  | 9 => ("BitSolver", "assertedBefore", "[I", true)
  | 10 => ("BitSolver", "assertedCount", "I", false)
  | 11 => ("BitSolver", "level", "I", false)
  | 12 => ("BitSolver", "assumptions", "[I", true)
  | _ => ("BitSolver", "assumptionCount", "I", false)
def t_B : Nat → FieldType := fun k => match k with
  | 0 => .object "BitSolver$Sets"
  | 1 => .object "BitSolver$Circuits"
  | 2 => .array .int
  | 3 => .array .int
  | 4 => .int
  | 5 => .int
  | 6 => .array .int
  | 7 => .int
  | 8 => .int
  | 9 => .array .int
  | 10 => .int
  | 11 => .int
  | 12 => .array .int
  | _ => .int
theorem nm_B : ∀ a, a < 14 → ∀ b, b < 14 → a ≠ b → (F_B a).2.1 ≠ (F_B b).2.1 := by decide +kernel
theorem tok_B : ∀ k, k < 14 → parseFieldDescriptor (F_B k).2.2.1 = some (t_B k) := by decide +kernel
def R_S : String := "BitSolver$Sets"
def F_S : u_T := fun k => match k with
  | _ => ("BitSolver$Sets", "words", "[J", true)
def t_S : Nat → FieldType := fun k => match k with
  | _ => .array .long
theorem nm_S : ∀ a, a < 1 → ∀ b, b < 1 → a ≠ b → (F_S a).2.1 ≠ (F_S b).2.1 := by decide +kernel
theorem tok_S : ∀ k, k < 1 → parseFieldDescriptor (F_S k).2.2.1 = some (t_S k) := by decide +kernel
def R_C : String := "BitSolver$Circuits"
def F_C : u_T := fun k => match k with
  | _ => ("BitSolver$Circuits", "sets", "LBitSolver$Sets;", true)
def t_C : Nat → FieldType := fun k => match k with
  | _ => .object "BitSolver$Sets"
theorem nm_C : ∀ a, a < 1 → ∀ b, b < 1 → a ≠ b → (F_C a).2.1 ≠ (F_C b).2.1 := by decide +kernel
theorem tok_C : ∀ k, k < 1 → parseFieldDescriptor (F_C k).2.2.1 = some (t_C k) := by decide +kernel
def R_M : String := "BitSolverModel"
def F_M : u_T := fun k => match k with
  | 0 => ("BitSolverModel", "thrown", "I", false)
  | 1 => ("BitSolverModel", "widths", "[I", true)
  | 2 => ("BitSolverModel", "variables", "I", false)
  | 3 => ("BitSolverModel", "bits", "I", false)
  | 4 => ("BitSolverModel", "tKind", "[I", true)
  | 5 => ("BitSolverModel", "tA", "[I", true)
  | 6 => ("BitSolverModel", "tB", "[I", true)
  | 7 => ("BitSolverModel", "tC", "[I", true)
  | 8 => ("BitSolverModel", "tWidth", "[I", true)
  | 9 => ("BitSolverModel", "terms", "I", false)
  | 10 => ("BitSolverModel", "fKind", "[I", true)
  | 11 => ("BitSolverModel", "fA", "[I", true)
  | 12 => ("BitSolverModel", "fB", "[I", true)
  | 13 => ("BitSolverModel", "formulas", "I", false)
  | 14 => ("BitSolverModel", "order", "[I", true)
  | 15 => ("BitSolverModel", "asserted", "[I", true)
  | 16 => ("BitSolverModel", "assertedAt", "[I", true)
  | 17 => ("BitSolverModel", "assertions", "I", false)
  | 18 => ("BitSolverModel", "level", "I", false)
  | 19 => ("BitSolverModel", "assumed", "[I", true)
  | 20 => ("BitSolverModel", "assumptions", "I", false)
  | 21 => ("BitSolverModel", "value", "[I", true)
  | _ => ("BitSolverModel", "holds", "[Z", true)
def t_M : Nat → FieldType := fun k => match k with
  | 0 => .int
  | 1 => .array .int
  | 2 => .int
  | 3 => .int
  | 4 => .array .int
  | 5 => .array .int
  | 6 => .array .int
  | 7 => .array .int
  | 8 => .array .int
  | 9 => .int
  | 10 => .array .int
  | 11 => .array .int
  | 12 => .array .int
  | 13 => .int
  | 14 => .array .int
  | 15 => .array .int
  | 16 => .array .int
  | 17 => .int
  | 18 => .int
  | 19 => .array .int
  | 20 => .int
  | 21 => .array .int
  | _ => .array .boolean
theorem nm_M : ∀ a, a < 23 → ∀ b, b < 23 → a ≠ b → (F_M a).2.1 ≠ (F_M b).2.1 := by decide +kernel
theorem tok_M : ∀ k, k < 23 → parseFieldDescriptor (F_M k).2.2.1 = some (t_M k) := by decide +kernel
def R_L : String := "BitSolverLaw"
abbrev cls : List vw_C := [(R_B, F_B, 14), (R_S, F_S, 1), (R_C, F_C, 1), (R_M, F_M, 23)]
abbrev b_B_init : ByteArray := prog_1_method_1_code
def y_B_init : MethodName := ⟨R_B, "<init>", "()V"⟩
theorem hd_B_init : y_B_init.cls ≠ "java/lang/invoke/MethodHandle" ∧ y_B_init.cls ≠ "java/lang/invoke/VarHandle" ∧ (parseMethodDescriptor y_B_init.desc).map (fun d => d.parameters.length) = some 0 := by decide +kernel
abbrev rm_B_init : Room := { frames := 3, cells := 0, slots := 0, locals := 65 }
abbrev b_B_variable : ByteArray := prog_1_method_2_code
def y_B_variable : MethodName := ⟨R_B, "variable", "(I)I"⟩
theorem hd_B_variable : y_B_variable.cls ≠ "java/lang/invoke/MethodHandle" ∧ y_B_variable.cls ≠ "java/lang/invoke/VarHandle" ∧ (parseMethodDescriptor y_B_variable.desc).map (fun d => d.parameters.length) = some 1 := by decide +kernel
abbrev rm_B_variable : Room := { frames := 1, cells := 0, slots := 0, locals := 20 }
abbrev b_B_term : ByteArray := prog_1_method_3_code
def y_B_term : MethodName := ⟨R_B, "term", "(IIII)I"⟩
theorem hd_B_term : y_B_term.cls ≠ "java/lang/invoke/MethodHandle" ∧ y_B_term.cls ≠ "java/lang/invoke/VarHandle" ∧ (parseMethodDescriptor y_B_term.desc).map (fun d => d.parameters.length) = some 4 := by decide +kernel
abbrev rm_B_term : Room := { frames := 4, cells := 0, slots := 0, locals := 99 }
abbrev b_B_formula : ByteArray := prog_1_method_4_code
def y_B_formula : MethodName := ⟨R_B, "formula", "(III)I"⟩
theorem hd_B_formula : y_B_formula.cls ≠ "java/lang/invoke/MethodHandle" ∧ y_B_formula.cls ≠ "java/lang/invoke/VarHandle" ∧ (parseMethodDescriptor y_B_formula.desc).map (fun d => d.parameters.length) = some 3 := by decide +kernel
abbrev rm_B_formula : Room := { frames := 4, cells := 0, slots := 0, locals := 104 }
abbrev b_B_assertion : ByteArray := prog_1_method_5_code
def y_B_assertion : MethodName := ⟨R_B, "assertion", "(I)I"⟩
theorem hd_B_assertion : y_B_assertion.cls ≠ "java/lang/invoke/MethodHandle" ∧ y_B_assertion.cls ≠ "java/lang/invoke/VarHandle" ∧ (parseMethodDescriptor y_B_assertion.desc).map (fun d => d.parameters.length) = some 1 := by decide +kernel
abbrev rm_B_assertion : Room := { frames := 1, cells := 0, slots := 0, locals := 25 }
abbrev b_B_push : ByteArray := prog_1_method_6_code
def y_B_push : MethodName := ⟨R_B, "push", "()I"⟩
theorem hd_B_push : y_B_push.cls ≠ "java/lang/invoke/MethodHandle" ∧ y_B_push.cls ≠ "java/lang/invoke/VarHandle" ∧ (parseMethodDescriptor y_B_push.desc).map (fun d => d.parameters.length) = some 0 := by decide +kernel
abbrev rm_B_push : Room := { frames := 1, cells := 0, slots := 0, locals := 24 }
abbrev b_B_pop : ByteArray := prog_1_method_7_code
def y_B_pop : MethodName := ⟨R_B, "pop", "()I"⟩
theorem hd_B_pop : y_B_pop.cls ≠ "java/lang/invoke/MethodHandle" ∧ y_B_pop.cls ≠ "java/lang/invoke/VarHandle" ∧ (parseMethodDescriptor y_B_pop.desc).map (fun d => d.parameters.length) = some 0 := by decide +kernel
abbrev rm_B_pop : Room := { frames := 0, cells := 0, slots := 0, locals := 0 }
abbrev b_B_check : ByteArray := prog_1_method_8_code
def y_B_check : MethodName := ⟨R_B, "check", "()I"⟩
theorem hd_B_check : y_B_check.cls ≠ "java/lang/invoke/MethodHandle" ∧ y_B_check.cls ≠ "java/lang/invoke/VarHandle" ∧ (parseMethodDescriptor y_B_check.desc).map (fun d => d.parameters.length) = some 0 := by decide +kernel
abbrev rm_B_check : Room := { frames := 3, cells := 0, slots := 0, locals := 64 }
abbrev b_B_value : ByteArray := prog_1_method_9_code
def y_B_value : MethodName := ⟨R_B, "value", "(I)I"⟩
theorem hd_B_value : y_B_value.cls ≠ "java/lang/invoke/MethodHandle" ∧ y_B_value.cls ≠ "java/lang/invoke/VarHandle" ∧ (parseMethodDescriptor y_B_value.desc).map (fun d => d.parameters.length) = some 1 := by decide +kernel
abbrev rm_B_value : Room := { frames := 3, cells := 0, slots := 0, locals := 64 }
abbrev b_B_valueOf : ByteArray := prog_1_method_10_code
def y_B_valueOf : MethodName := ⟨R_B, "valueOf", "(I)I"⟩
theorem hd_B_valueOf : y_B_valueOf.cls ≠ "java/lang/invoke/MethodHandle" ∧ y_B_valueOf.cls ≠ "java/lang/invoke/VarHandle" ∧ (parseMethodDescriptor y_B_valueOf.desc).map (fun d => d.parameters.length) = some 1 := by decide +kernel
abbrev rm_B_valueOf : Room := { frames := 3, cells := 0, slots := 0, locals := 64 }
abbrev b_B_entailed : ByteArray := prog_1_method_11_code
def y_B_entailed : MethodName := ⟨R_B, "entailed", "(I)I"⟩
theorem hd_B_entailed : y_B_entailed.cls ≠ "java/lang/invoke/MethodHandle" ∧ y_B_entailed.cls ≠ "java/lang/invoke/VarHandle" ∧ (parseMethodDescriptor y_B_entailed.desc).map (fun d => d.parameters.length) = some 1 := by decide +kernel
abbrev rm_B_entailed : Room := { frames := 3, cells := 0, slots := 0, locals := 64 }
abbrev b_B_fixed : ByteArray := prog_1_method_12_code
def y_B_fixed : MethodName := ⟨R_B, "fixed", "(I)I"⟩
theorem hd_B_fixed : y_B_fixed.cls ≠ "java/lang/invoke/MethodHandle" ∧ y_B_fixed.cls ≠ "java/lang/invoke/VarHandle" ∧ (parseMethodDescriptor y_B_fixed.desc).map (fun d => d.parameters.length) = some 1 := by decide +kernel
abbrev rm_B_fixed : Room := { frames := 3, cells := 0, slots := 0, locals := 64 }
abbrev b_B_least : ByteArray := prog_1_method_13_code
def y_B_least : MethodName := ⟨R_B, "least", "(I)I"⟩
theorem hd_B_least : y_B_least.cls ≠ "java/lang/invoke/MethodHandle" ∧ y_B_least.cls ≠ "java/lang/invoke/VarHandle" ∧ (parseMethodDescriptor y_B_least.desc).map (fun d => d.parameters.length) = some 1 := by decide +kernel
abbrev rm_B_least : Room := { frames := 3, cells := 0, slots := 0, locals := 64 }
abbrev b_B_assume : ByteArray := prog_1_method_14_code
def y_B_assume : MethodName := ⟨R_B, "assume", "(I)I"⟩
theorem hd_B_assume : y_B_assume.cls ≠ "java/lang/invoke/MethodHandle" ∧ y_B_assume.cls ≠ "java/lang/invoke/VarHandle" ∧ (parseMethodDescriptor y_B_assume.desc).map (fun d => d.parameters.length) = some 1 := by decide +kernel
abbrev rm_B_assume : Room := { frames := 1, cells := 0, slots := 0, locals := 21 }
abbrev b_B_clear : ByteArray := prog_1_method_15_code
def y_B_clear : MethodName := ⟨R_B, "clear", "()I"⟩
theorem hd_B_clear : y_B_clear.cls ≠ "java/lang/invoke/MethodHandle" ∧ y_B_clear.cls ≠ "java/lang/invoke/VarHandle" ∧ (parseMethodDescriptor y_B_clear.desc).map (fun d => d.parameters.length) = some 0 := by decide +kernel
abbrev rm_B_clear : Room := { frames := 0, cells := 0, slots := 0, locals := 0 }
abbrev b_B_attempt : ByteArray := prog_1_method_16_code
def y_B_attempt : MethodName := ⟨R_B, "attempt", "()I"⟩
theorem hd_B_attempt : y_B_attempt.cls ≠ "java/lang/invoke/MethodHandle" ∧ y_B_attempt.cls ≠ "java/lang/invoke/VarHandle" ∧ (parseMethodDescriptor y_B_attempt.desc).map (fun d => d.parameters.length) = some 0 := by decide +kernel
abbrev rm_B_attempt : Room := { frames := 3, cells := 0, slots := 0, locals := 66 }
abbrev b_B_blame : ByteArray := prog_1_method_17_code
def y_B_blame : MethodName := ⟨R_B, "blame", "()I"⟩
theorem hd_B_blame : y_B_blame.cls ≠ "java/lang/invoke/MethodHandle" ∧ y_B_blame.cls ≠ "java/lang/invoke/VarHandle" ∧ (parseMethodDescriptor y_B_blame.desc).map (fun d => d.parameters.length) = some 0 := by decide +kernel
abbrev rm_B_blame : Room := { frames := 3, cells := 0, slots := 0, locals := 66 }
abbrev b_B_count : ByteArray := prog_1_method_18_code
def y_B_count : MethodName := ⟨R_B, "count", "(I)I"⟩
theorem hd_B_count : y_B_count.cls ≠ "java/lang/invoke/MethodHandle" ∧ y_B_count.cls ≠ "java/lang/invoke/VarHandle" ∧ (parseMethodDescriptor y_B_count.desc).map (fun d => d.parameters.length) = some 1 := by decide +kernel
abbrev rm_B_count : Room := { frames := 0, cells := 0, slots := 0, locals := 0 }
abbrev b_B_isWidth : ByteArray := prog_1_method_19_code
def y_B_isWidth : MethodName := ⟨R_B, "isWidth", "(I)Z"⟩
theorem hd_B_isWidth : y_B_isWidth.cls ≠ "java/lang/invoke/MethodHandle" ∧ y_B_isWidth.cls ≠ "java/lang/invoke/VarHandle" ∧ (parseMethodDescriptor y_B_isWidth.desc).map (fun d => d.parameters.length) = some 1 := by decide +kernel
abbrev rm_B_isWidth : Room := { frames := 0, cells := 0, slots := 0, locals := 0 }
abbrev b_B_hasVariable : ByteArray := prog_1_method_20_code
def y_B_hasVariable : MethodName := ⟨R_B, "hasVariable", "(I)Z"⟩
theorem hd_B_hasVariable : y_B_hasVariable.cls ≠ "java/lang/invoke/MethodHandle" ∧ y_B_hasVariable.cls ≠ "java/lang/invoke/VarHandle" ∧ (parseMethodDescriptor y_B_hasVariable.desc).map (fun d => d.parameters.length) = some 1 := by decide +kernel
abbrev rm_B_hasVariable : Room := { frames := 0, cells := 0, slots := 0, locals := 0 }
abbrev b_B_hasTerm : ByteArray := prog_1_method_21_code
def y_B_hasTerm : MethodName := ⟨R_B, "hasTerm", "(I)Z"⟩
theorem hd_B_hasTerm : y_B_hasTerm.cls ≠ "java/lang/invoke/MethodHandle" ∧ y_B_hasTerm.cls ≠ "java/lang/invoke/VarHandle" ∧ (parseMethodDescriptor y_B_hasTerm.desc).map (fun d => d.parameters.length) = some 1 := by decide +kernel
abbrev rm_B_hasTerm : Room := { frames := 0, cells := 0, slots := 0, locals := 0 }
abbrev b_B_hasFormula : ByteArray := prog_1_method_22_code
def y_B_hasFormula : MethodName := ⟨R_B, "hasFormula", "(I)Z"⟩
theorem hd_B_hasFormula : y_B_hasFormula.cls ≠ "java/lang/invoke/MethodHandle" ∧ y_B_hasFormula.cls ≠ "java/lang/invoke/VarHandle" ∧ (parseMethodDescriptor y_B_hasFormula.desc).map (fun d => d.parameters.length) = some 1 := by decide +kernel
abbrev rm_B_hasFormula : Room := { frames := 0, cells := 0, slots := 0, locals := 0 }
abbrev b_B_hasModel : ByteArray := prog_1_method_23_code
def y_B_hasModel : MethodName := ⟨R_B, "hasModel", "()Z"⟩
theorem hd_B_hasModel : y_B_hasModel.cls ≠ "java/lang/invoke/MethodHandle" ∧ y_B_hasModel.cls ≠ "java/lang/invoke/VarHandle" ∧ (parseMethodDescriptor y_B_hasModel.desc).map (fun d => d.parameters.length) = some 0 := by decide +kernel
abbrev rm_B_hasModel : Room := { frames := 2, cells := 0, slots := 0, locals := 44 }
abbrev b_B_modelRow : ByteArray := prog_1_method_24_code
def y_B_modelRow : MethodName := ⟨R_B, "modelRow", "()I"⟩
theorem hd_B_modelRow : y_B_modelRow.cls ≠ "java/lang/invoke/MethodHandle" ∧ y_B_modelRow.cls ≠ "java/lang/invoke/VarHandle" ∧ (parseMethodDescriptor y_B_modelRow.desc).map (fun d => d.parameters.length) = some 0 := by decide +kernel
abbrev rm_B_modelRow : Room := { frames := 0, cells := 0, slots := 0, locals := 0 }
abbrev b_B_termRow : ByteArray := prog_1_method_25_code
def y_B_termRow : MethodName := ⟨R_B, "termRow", "(I)I"⟩
theorem hd_B_termRow : y_B_termRow.cls ≠ "java/lang/invoke/MethodHandle" ∧ y_B_termRow.cls ≠ "java/lang/invoke/VarHandle" ∧ (parseMethodDescriptor y_B_termRow.desc).map (fun d => d.parameters.length) = some 1 := by decide +kernel
abbrev rm_B_termRow : Room := { frames := 0, cells := 0, slots := 0, locals := 0 }
abbrev b_B_allAssumptions : ByteArray := prog_1_method_26_code
def y_B_allAssumptions : MethodName := ⟨R_B, "allAssumptions", "()I"⟩
theorem hd_B_allAssumptions : y_B_allAssumptions.cls ≠ "java/lang/invoke/MethodHandle" ∧ y_B_allAssumptions.cls ≠ "java/lang/invoke/VarHandle" ∧ (parseMethodDescriptor y_B_allAssumptions.desc).map (fun d => d.parameters.length) = some 0 := by decide +kernel
abbrev rm_B_allAssumptions : Room := { frames := 0, cells := 0, slots := 0, locals := 0 }
abbrev b_B_canAssume : ByteArray := prog_1_method_27_code
def y_B_canAssume : MethodName := ⟨R_B, "canAssume", "(I)Z"⟩
theorem hd_B_canAssume : y_B_canAssume.cls ≠ "java/lang/invoke/MethodHandle" ∧ y_B_canAssume.cls ≠ "java/lang/invoke/VarHandle" ∧ (parseMethodDescriptor y_B_canAssume.desc).map (fun d => d.parameters.length) = some 1 := by decide +kernel
abbrev rm_B_canAssume : Room := { frames := 2, cells := 0, slots := 0, locals := 44 }
abbrev b_B_widthToBuild : ByteArray := prog_1_method_28_code
def y_B_widthToBuild : MethodName := ⟨R_B, "widthToBuild", "(IIII)I"⟩
theorem hd_B_widthToBuild : y_B_widthToBuild.cls ≠ "java/lang/invoke/MethodHandle" ∧ y_B_widthToBuild.cls ≠ "java/lang/invoke/VarHandle" ∧ (parseMethodDescriptor y_B_widthToBuild.desc).map (fun d => d.parameters.length) = some 4 := by decide +kernel
abbrev rm_B_widthToBuild : Room := { frames := 3, cells := 0, slots := 0, locals := 64 }
abbrev b_B_widthOrNone : ByteArray := prog_1_method_29_code
def y_B_widthOrNone : MethodName := ⟨R_B, "widthOrNone", "(I)I"⟩
theorem hd_B_widthOrNone : y_B_widthOrNone.cls ≠ "java/lang/invoke/MethodHandle" ∧ y_B_widthOrNone.cls ≠ "java/lang/invoke/VarHandle" ∧ (parseMethodDescriptor y_B_widthOrNone.desc).map (fun d => d.parameters.length) = some 1 := by decide +kernel
abbrev rm_B_widthOrNone : Room := { frames := 1, cells := 0, slots := 0, locals := 21 }
abbrev b_B_commonWidth : ByteArray := prog_1_method_30_code
def y_B_commonWidth : MethodName := ⟨R_B, "commonWidth", "(II)I"⟩
theorem hd_B_commonWidth : y_B_commonWidth.cls ≠ "java/lang/invoke/MethodHandle" ∧ y_B_commonWidth.cls ≠ "java/lang/invoke/VarHandle" ∧ (parseMethodDescriptor y_B_commonWidth.desc).map (fun d => d.parameters.length) = some 2 := by decide +kernel
abbrev rm_B_commonWidth : Room := { frames := 2, cells := 0, slots := 0, locals := 42 }
abbrev b_B_joinedWidth : ByteArray := prog_1_method_31_code
def y_B_joinedWidth : MethodName := ⟨R_B, "joinedWidth", "(II)I"⟩
theorem hd_B_joinedWidth : y_B_joinedWidth.cls ≠ "java/lang/invoke/MethodHandle" ∧ y_B_joinedWidth.cls ≠ "java/lang/invoke/VarHandle" ∧ (parseMethodDescriptor y_B_joinedWidth.desc).map (fun d => d.parameters.length) = some 2 := by decide +kernel
abbrev rm_B_joinedWidth : Room := { frames := 1, cells := 0, slots := 0, locals := 21 }
abbrev b_B_buildNumeric : ByteArray := prog_1_method_32_code
def y_B_buildNumeric : MethodName := ⟨R_B, "buildNumeric", "(III)V"⟩
theorem hd_B_buildNumeric : y_B_buildNumeric.cls ≠ "java/lang/invoke/MethodHandle" ∧ y_B_buildNumeric.cls ≠ "java/lang/invoke/VarHandle" ∧ (parseMethodDescriptor y_B_buildNumeric.desc).map (fun d => d.parameters.length) = some 3 := by decide +kernel
abbrev rm_B_buildNumeric : Room := { frames := 3, cells := 0, slots := 0, locals := 74 }
abbrev b_B_buildNumber : ByteArray := prog_1_method_33_code
def y_B_buildNumber : MethodName := ⟨R_B, "buildNumber", "(III)V"⟩
theorem hd_B_buildNumber : y_B_buildNumber.cls ≠ "java/lang/invoke/MethodHandle" ∧ y_B_buildNumber.cls ≠ "java/lang/invoke/VarHandle" ∧ (parseMethodDescriptor y_B_buildNumber.desc).map (fun d => d.parameters.length) = some 3 := by decide +kernel
abbrev rm_B_buildNumber : Room := { frames := 1, cells := 0, slots := 0, locals := 24 }
abbrev b_B_buildVariable : ByteArray := prog_1_method_34_code
def y_B_buildVariable : MethodName := ⟨R_B, "buildVariable", "(II)V"⟩
theorem hd_B_buildVariable : y_B_buildVariable.cls ≠ "java/lang/invoke/MethodHandle" ∧ y_B_buildVariable.cls ≠ "java/lang/invoke/VarHandle" ∧ (parseMethodDescriptor y_B_buildVariable.desc).map (fun d => d.parameters.length) = some 2 := by decide +kernel
abbrev rm_B_buildVariable : Room := { frames := 2, cells := 0, slots := 0, locals := 44 }
abbrev b_B_buildBitwise : ByteArray := prog_1_method_35_code
def y_B_buildBitwise : MethodName := ⟨R_B, "buildBitwise", "(III)V"⟩
theorem hd_B_buildBitwise : y_B_buildBitwise.cls ≠ "java/lang/invoke/MethodHandle" ∧ y_B_buildBitwise.cls ≠ "java/lang/invoke/VarHandle" ∧ (parseMethodDescriptor y_B_buildBitwise.desc).map (fun d => d.parameters.length) = some 3 := by decide +kernel
abbrev rm_B_buildBitwise : Room := { frames := 1, cells := 0, slots := 0, locals := 25 }
abbrev b_B_buildArranged : ByteArray := prog_1_method_36_code
def y_B_buildArranged : MethodName := ⟨R_B, "buildArranged", "(IIII)V"⟩
theorem hd_B_buildArranged : y_B_buildArranged.cls ≠ "java/lang/invoke/MethodHandle" ∧ y_B_buildArranged.cls ≠ "java/lang/invoke/VarHandle" ∧ (parseMethodDescriptor y_B_buildArranged.desc).map (fun d => d.parameters.length) = some 4 := by decide +kernel
abbrev rm_B_buildArranged : Room := { frames := 2, cells := 0, slots := 0, locals := 53 }
abbrev b_B_canBuildFormula : ByteArray := prog_1_method_37_code
def y_B_canBuildFormula : MethodName := ⟨R_B, "canBuildFormula", "(III)Z"⟩
theorem hd_B_canBuildFormula : y_B_canBuildFormula.cls ≠ "java/lang/invoke/MethodHandle" ∧ y_B_canBuildFormula.cls ≠ "java/lang/invoke/VarHandle" ∧ (parseMethodDescriptor y_B_canBuildFormula.desc).map (fun d => d.parameters.length) = some 3 := by decide +kernel
abbrev rm_B_canBuildFormula : Room := { frames := 3, cells := 0, slots := 0, locals := 64 }
abbrev b_B_buildRelation : ByteArray := prog_1_method_38_code
def y_B_buildRelation : MethodName := ⟨R_B, "buildRelation", "(III)V"⟩
theorem hd_B_buildRelation : y_B_buildRelation.cls ≠ "java/lang/invoke/MethodHandle" ∧ y_B_buildRelation.cls ≠ "java/lang/invoke/VarHandle" ∧ (parseMethodDescriptor y_B_buildRelation.desc).map (fun d => d.parameters.length) = some 3 := by decide +kernel
abbrev rm_B_buildRelation : Room := { frames := 3, cells := 0, slots := 0, locals := 79 }
abbrev b_B_buildConnective : ByteArray := prog_1_method_39_code
def y_B_buildConnective : MethodName := ⟨R_B, "buildConnective", "(III)V"⟩
theorem hd_B_buildConnective : y_B_buildConnective.cls ≠ "java/lang/invoke/MethodHandle" ∧ y_B_buildConnective.cls ≠ "java/lang/invoke/VarHandle" ∧ (parseMethodDescriptor y_B_buildConnective.desc).map (fun d => d.parameters.length) = some 3 := by decide +kernel
abbrev rm_B_buildConnective : Room := { frames := 1, cells := 0, slots := 0, locals := 25 }
abbrev b_M_init : ByteArray := prog_5_method_1_code
def y_M_init : MethodName := ⟨R_M, "<init>", "()V"⟩
theorem hd_M_init : y_M_init.cls ≠ "java/lang/invoke/MethodHandle" ∧ y_M_init.cls ≠ "java/lang/invoke/VarHandle" ∧ (parseMethodDescriptor y_M_init.desc).map (fun d => d.parameters.length) = some 0 := by decide +kernel
abbrev rm_M_init : Room := { frames := 1, cells := 0, slots := 0, locals := 24 }
abbrev b_M_thrown : ByteArray := prog_5_method_2_code
def y_M_thrown : MethodName := ⟨R_M, "thrown", "()I"⟩
theorem hd_M_thrown : y_M_thrown.cls ≠ "java/lang/invoke/MethodHandle" ∧ y_M_thrown.cls ≠ "java/lang/invoke/VarHandle" ∧ (parseMethodDescriptor y_M_thrown.desc).map (fun d => d.parameters.length) = some 0 := by decide +kernel
abbrev rm_M_thrown : Room := { frames := 0, cells := 0, slots := 0, locals := 0 }
abbrev b_M_raise : ByteArray := prog_5_method_3_code
def y_M_raise : MethodName := ⟨R_M, "raise", "(I)I"⟩
theorem hd_M_raise : y_M_raise.cls ≠ "java/lang/invoke/MethodHandle" ∧ y_M_raise.cls ≠ "java/lang/invoke/VarHandle" ∧ (parseMethodDescriptor y_M_raise.desc).map (fun d => d.parameters.length) = some 1 := by decide +kernel
abbrev rm_M_raise : Room := { frames := 0, cells := 0, slots := 0, locals := 0 }
abbrev b_M_in : ByteArray := prog_5_method_4_code
def y_M_in : MethodName := ⟨R_M, "in", "(III)Z"⟩
theorem hd_M_in : y_M_in.cls ≠ "java/lang/invoke/MethodHandle" ∧ y_M_in.cls ≠ "java/lang/invoke/VarHandle" ∧ (parseMethodDescriptor y_M_in.desc).map (fun d => d.parameters.length) = some 3 := by decide +kernel
abbrev rm_M_in : Room := { frames := 0, cells := 0, slots := 0, locals := 0 }
abbrev b_M_variable : ByteArray := prog_5_method_5_code
def y_M_variable : MethodName := ⟨R_M, "variable", "(I)I"⟩
theorem hd_M_variable : y_M_variable.cls ≠ "java/lang/invoke/MethodHandle" ∧ y_M_variable.cls ≠ "java/lang/invoke/VarHandle" ∧ (parseMethodDescriptor y_M_variable.desc).map (fun d => d.parameters.length) = some 1 := by decide +kernel
abbrev rm_M_variable : Room := { frames := 1, cells := 0, slots := 0, locals := 22 }
abbrev b_M_isTerm : ByteArray := prog_5_method_6_code
def y_M_isTerm : MethodName := ⟨R_M, "isTerm", "(I)Z"⟩
theorem hd_M_isTerm : y_M_isTerm.cls ≠ "java/lang/invoke/MethodHandle" ∧ y_M_isTerm.cls ≠ "java/lang/invoke/VarHandle" ∧ (parseMethodDescriptor y_M_isTerm.desc).map (fun d => d.parameters.length) = some 1 := by decide +kernel
abbrev rm_M_isTerm : Room := { frames := 1, cells := 0, slots := 0, locals := 22 }
abbrev b_M_isFormula : ByteArray := prog_5_method_7_code
def y_M_isFormula : MethodName := ⟨R_M, "isFormula", "(I)Z"⟩
theorem hd_M_isFormula : y_M_isFormula.cls ≠ "java/lang/invoke/MethodHandle" ∧ y_M_isFormula.cls ≠ "java/lang/invoke/VarHandle" ∧ (parseMethodDescriptor y_M_isFormula.desc).map (fun d => d.parameters.length) = some 1 := by decide +kernel
abbrev rm_M_isFormula : Room := { frames := 1, cells := 0, slots := 0, locals := 22 }
abbrev b_M_alike : ByteArray := prog_5_method_8_code
def y_M_alike : MethodName := ⟨R_M, "alike", "(II)Z"⟩
theorem hd_M_alike : y_M_alike.cls ≠ "java/lang/invoke/MethodHandle" ∧ y_M_alike.cls ≠ "java/lang/invoke/VarHandle" ∧ (parseMethodDescriptor y_M_alike.desc).map (fun d => d.parameters.length) = some 2 := by decide +kernel
abbrev rm_M_alike : Room := { frames := 2, cells := 0, slots := 0, locals := 43 }
abbrev b_M_widthOf : ByteArray := prog_5_method_9_code
def y_M_widthOf : MethodName := ⟨R_M, "widthOf", "(IIII)I"⟩
theorem hd_M_widthOf : y_M_widthOf.cls ≠ "java/lang/invoke/MethodHandle" ∧ y_M_widthOf.cls ≠ "java/lang/invoke/VarHandle" ∧ (parseMethodDescriptor y_M_widthOf.desc).map (fun d => d.parameters.length) = some 4 := by decide +kernel
abbrev rm_M_widthOf : Room := { frames := 3, cells := 0, slots := 0, locals := 65 }
abbrev b_M_term : ByteArray := prog_5_method_10_code
def y_M_term : MethodName := ⟨R_M, "term", "(IIII)I"⟩
theorem hd_M_term : y_M_term.cls ≠ "java/lang/invoke/MethodHandle" ∧ y_M_term.cls ≠ "java/lang/invoke/VarHandle" ∧ (parseMethodDescriptor y_M_term.desc).map (fun d => d.parameters.length) = some 4 := by decide +kernel
abbrev rm_M_term : Room := { frames := 4, cells := 0, slots := 0, locals := 89 }
abbrev b_M_can : ByteArray := prog_5_method_11_code
def y_M_can : MethodName := ⟨R_M, "can", "(III)Z"⟩
theorem hd_M_can : y_M_can.cls ≠ "java/lang/invoke/MethodHandle" ∧ y_M_can.cls ≠ "java/lang/invoke/VarHandle" ∧ (parseMethodDescriptor y_M_can.desc).map (fun d => d.parameters.length) = some 3 := by decide +kernel
abbrev rm_M_can : Room := { frames := 3, cells := 0, slots := 0, locals := 65 }
abbrev b_M_formula : ByteArray := prog_5_method_12_code
def y_M_formula : MethodName := ⟨R_M, "formula", "(III)I"⟩
theorem hd_M_formula : y_M_formula.cls ≠ "java/lang/invoke/MethodHandle" ∧ y_M_formula.cls ≠ "java/lang/invoke/VarHandle" ∧ (parseMethodDescriptor y_M_formula.desc).map (fun d => d.parameters.length) = some 3 := by decide +kernel
abbrev rm_M_formula : Room := { frames := 4, cells := 0, slots := 0, locals := 88 }
abbrev b_M_signed : ByteArray := prog_5_method_13_code
def y_M_signed : MethodName := ⟨R_M, "signed", "(II)I"⟩
theorem hd_M_signed : y_M_signed.cls ≠ "java/lang/invoke/MethodHandle" ∧ y_M_signed.cls ≠ "java/lang/invoke/VarHandle" ∧ (parseMethodDescriptor y_M_signed.desc).map (fun d => d.parameters.length) = some 2 := by decide +kernel
abbrev rm_M_signed : Room := { frames := 0, cells := 0, slots := 0, locals := 0 }
abbrev b_M_given : ByteArray := prog_5_method_14_code
def y_M_given : MethodName := ⟨R_M, "given", "(II)I"⟩
theorem hd_M_given : y_M_given.cls ≠ "java/lang/invoke/MethodHandle" ∧ y_M_given.cls ≠ "java/lang/invoke/VarHandle" ∧ (parseMethodDescriptor y_M_given.desc).map (fun d => d.parameters.length) = some 2 := by decide +kernel
abbrev rm_M_given : Room := { frames := 0, cells := 0, slots := 0, locals := 0 }
abbrev b_M_raw : ByteArray := prog_5_method_15_code
def y_M_raw : MethodName := ⟨R_M, "raw", "(II)I"⟩
theorem hd_M_raw : y_M_raw.cls ≠ "java/lang/invoke/MethodHandle" ∧ y_M_raw.cls ≠ "java/lang/invoke/VarHandle" ∧ (parseMethodDescriptor y_M_raw.desc).map (fun d => d.parameters.length) = some 2 := by decide +kernel
abbrev rm_M_raw : Room := { frames := 1, cells := 0, slots := 0, locals := 24 }
abbrev b_M_truth : ByteArray := prog_5_method_16_code
def y_M_truth : MethodName := ⟨R_M, "truth", "(I)Z"⟩
theorem hd_M_truth : y_M_truth.cls ≠ "java/lang/invoke/MethodHandle" ∧ y_M_truth.cls ≠ "java/lang/invoke/VarHandle" ∧ (parseMethodDescriptor y_M_truth.desc).map (fun d => d.parameters.length) = some 1 := by decide +kernel
abbrev rm_M_truth : Room := { frames := 1, cells := 0, slots := 0, locals := 21 }
abbrev b_M_models : ByteArray := prog_5_method_17_code
def y_M_models : MethodName := ⟨R_M, "models", "(II)Z"⟩
theorem hd_M_models : y_M_models.cls ≠ "java/lang/invoke/MethodHandle" ∧ y_M_models.cls ≠ "java/lang/invoke/VarHandle" ∧ (parseMethodDescriptor y_M_models.desc).map (fun d => d.parameters.length) = some 2 := by decide +kernel
abbrev rm_M_models : Room := { frames := 2, cells := 0, slots := 0, locals := 48 }
abbrev b_M_next : ByteArray := prog_5_method_18_code
def y_M_next : MethodName := ⟨R_M, "next", "(II)I"⟩
theorem hd_M_next : y_M_next.cls ≠ "java/lang/invoke/MethodHandle" ∧ y_M_next.cls ≠ "java/lang/invoke/VarHandle" ∧ (parseMethodDescriptor y_M_next.desc).map (fun d => d.parameters.length) = some 2 := by decide +kernel
abbrev rm_M_next : Room := { frames := 3, cells := 0, slots := 0, locals := 72 }
abbrev b_M_assertion : ByteArray := prog_5_method_19_code
def y_M_assertion : MethodName := ⟨R_M, "assertion", "(I)I"⟩
theorem hd_M_assertion : y_M_assertion.cls ≠ "java/lang/invoke/MethodHandle" ∧ y_M_assertion.cls ≠ "java/lang/invoke/VarHandle" ∧ (parseMethodDescriptor y_M_assertion.desc).map (fun d => d.parameters.length) = some 1 := by decide +kernel
abbrev rm_M_assertion : Room := { frames := 2, cells := 0, slots := 0, locals := 43 }
abbrev b_M_push : ByteArray := prog_5_method_20_code
def y_M_push : MethodName := ⟨R_M, "push", "()I"⟩
theorem hd_M_push : y_M_push.cls ≠ "java/lang/invoke/MethodHandle" ∧ y_M_push.cls ≠ "java/lang/invoke/VarHandle" ∧ (parseMethodDescriptor y_M_push.desc).map (fun d => d.parameters.length) = some 0 := by decide +kernel
abbrev rm_M_push : Room := { frames := 1, cells := 0, slots := 0, locals := 21 }
abbrev b_M_pop : ByteArray := prog_5_method_21_code
def y_M_pop : MethodName := ⟨R_M, "pop", "()I"⟩
theorem hd_M_pop : y_M_pop.cls ≠ "java/lang/invoke/MethodHandle" ∧ y_M_pop.cls ≠ "java/lang/invoke/VarHandle" ∧ (parseMethodDescriptor y_M_pop.desc).map (fun d => d.parameters.length) = some 0 := by decide +kernel
abbrev rm_M_pop : Room := { frames := 1, cells := 0, slots := 0, locals := 21 }
abbrev b_M_check : ByteArray := prog_5_method_22_code
def y_M_check : MethodName := ⟨R_M, "check", "()I"⟩
theorem hd_M_check : y_M_check.cls ≠ "java/lang/invoke/MethodHandle" ∧ y_M_check.cls ≠ "java/lang/invoke/VarHandle" ∧ (parseMethodDescriptor y_M_check.desc).map (fun d => d.parameters.length) = some 0 := by decide +kernel
abbrev rm_M_check : Room := { frames := 4, cells := 0, slots := 0, locals := 95 }
abbrev b_M_value : ByteArray := prog_5_method_23_code
def y_M_value : MethodName := ⟨R_M, "value", "(I)I"⟩
theorem hd_M_value : y_M_value.cls ≠ "java/lang/invoke/MethodHandle" ∧ y_M_value.cls ≠ "java/lang/invoke/VarHandle" ∧ (parseMethodDescriptor y_M_value.desc).map (fun d => d.parameters.length) = some 1 := by decide +kernel
abbrev rm_M_value : Room := { frames := 4, cells := 0, slots := 0, locals := 95 }
abbrev b_M_valueOf : ByteArray := prog_5_method_24_code
def y_M_valueOf : MethodName := ⟨R_M, "valueOf", "(I)I"⟩
theorem hd_M_valueOf : y_M_valueOf.cls ≠ "java/lang/invoke/MethodHandle" ∧ y_M_valueOf.cls ≠ "java/lang/invoke/VarHandle" ∧ (parseMethodDescriptor y_M_valueOf.desc).map (fun d => d.parameters.length) = some 1 := by decide +kernel
abbrev rm_M_valueOf : Room := { frames := 4, cells := 0, slots := 0, locals := 95 }
abbrev b_M_entailed : ByteArray := prog_5_method_25_code
def y_M_entailed : MethodName := ⟨R_M, "entailed", "(I)I"⟩
theorem hd_M_entailed : y_M_entailed.cls ≠ "java/lang/invoke/MethodHandle" ∧ y_M_entailed.cls ≠ "java/lang/invoke/VarHandle" ∧ (parseMethodDescriptor y_M_entailed.desc).map (fun d => d.parameters.length) = some 1 := by decide +kernel
abbrev rm_M_entailed : Room := { frames := 4, cells := 0, slots := 0, locals := 95 }
abbrev b_M_fixed : ByteArray := prog_5_method_26_code
def y_M_fixed : MethodName := ⟨R_M, "fixed", "(I)I"⟩
theorem hd_M_fixed : y_M_fixed.cls ≠ "java/lang/invoke/MethodHandle" ∧ y_M_fixed.cls ≠ "java/lang/invoke/VarHandle" ∧ (parseMethodDescriptor y_M_fixed.desc).map (fun d => d.parameters.length) = some 1 := by decide +kernel
abbrev rm_M_fixed : Room := { frames := 4, cells := 0, slots := 0, locals := 95 }
abbrev b_M_least : ByteArray := prog_5_method_27_code
def y_M_least : MethodName := ⟨R_M, "least", "(I)I"⟩
theorem hd_M_least : y_M_least.cls ≠ "java/lang/invoke/MethodHandle" ∧ y_M_least.cls ≠ "java/lang/invoke/VarHandle" ∧ (parseMethodDescriptor y_M_least.desc).map (fun d => d.parameters.length) = some 1 := by decide +kernel
abbrev rm_M_least : Room := { frames := 4, cells := 0, slots := 0, locals := 95 }
abbrev b_M_assume : ByteArray := prog_5_method_28_code
def y_M_assume : MethodName := ⟨R_M, "assume", "(I)I"⟩
theorem hd_M_assume : y_M_assume.cls ≠ "java/lang/invoke/MethodHandle" ∧ y_M_assume.cls ≠ "java/lang/invoke/VarHandle" ∧ (parseMethodDescriptor y_M_assume.desc).map (fun d => d.parameters.length) = some 1 := by decide +kernel
abbrev rm_M_assume : Room := { frames := 2, cells := 0, slots := 0, locals := 43 }
abbrev b_M_clear : ByteArray := prog_5_method_29_code
def y_M_clear : MethodName := ⟨R_M, "clear", "()I"⟩
theorem hd_M_clear : y_M_clear.cls ≠ "java/lang/invoke/MethodHandle" ∧ y_M_clear.cls ≠ "java/lang/invoke/VarHandle" ∧ (parseMethodDescriptor y_M_clear.desc).map (fun d => d.parameters.length) = some 0 := by decide +kernel
abbrev rm_M_clear : Room := { frames := 0, cells := 0, slots := 0, locals := 0 }
abbrev b_M_attempt : ByteArray := prog_5_method_30_code
def y_M_attempt : MethodName := ⟨R_M, "attempt", "()I"⟩
theorem hd_M_attempt : y_M_attempt.cls ≠ "java/lang/invoke/MethodHandle" ∧ y_M_attempt.cls ≠ "java/lang/invoke/VarHandle" ∧ (parseMethodDescriptor y_M_attempt.desc).map (fun d => d.parameters.length) = some 0 := by decide +kernel
abbrev rm_M_attempt : Room := { frames := 4, cells := 0, slots := 0, locals := 95 }
abbrev b_M_blame : ByteArray := prog_5_method_31_code
def y_M_blame : MethodName := ⟨R_M, "blame", "()I"⟩
theorem hd_M_blame : y_M_blame.cls ≠ "java/lang/invoke/MethodHandle" ∧ y_M_blame.cls ≠ "java/lang/invoke/VarHandle" ∧ (parseMethodDescriptor y_M_blame.desc).map (fun d => d.parameters.length) = some 0 := by decide +kernel
abbrev rm_M_blame : Room := { frames := 4, cells := 0, slots := 0, locals := 95 }
abbrev b_M_count : ByteArray := prog_5_method_32_code
def y_M_count : MethodName := ⟨R_M, "count", "(I)I"⟩
theorem hd_M_count : y_M_count.cls ≠ "java/lang/invoke/MethodHandle" ∧ y_M_count.cls ≠ "java/lang/invoke/VarHandle" ∧ (parseMethodDescriptor y_M_count.desc).map (fun d => d.parameters.length) = some 1 := by decide +kernel
abbrev rm_M_count : Room := { frames := 1, cells := 0, slots := 0, locals := 21 }
abbrev b_C_init : ByteArray := prog_2_method_1_code
def y_C_init : MethodName := ⟨R_C, "<init>", "()V"⟩
theorem hd_C_init : y_C_init.cls ≠ "java/lang/invoke/MethodHandle" ∧ y_C_init.cls ≠ "java/lang/invoke/VarHandle" ∧ (parseMethodDescriptor y_C_init.desc).map (fun d => d.parameters.length) = some 0 := by decide +kernel
abbrev rm_C_init : Room := { frames := 2, cells := 0, slots := 0, locals := 45 }
abbrev b_C_sum : ByteArray := prog_2_method_2_code
def y_C_sum : MethodName := ⟨R_C, "sum", "(IIII)V"⟩
theorem hd_C_sum : y_C_sum.cls ≠ "java/lang/invoke/MethodHandle" ∧ y_C_sum.cls ≠ "java/lang/invoke/VarHandle" ∧ (parseMethodDescriptor y_C_sum.desc).map (fun d => d.parameters.length) = some 4 := by decide +kernel
abbrev rm_C_sum : Room := { frames := 2, cells := 0, slots := 0, locals := 48 }
abbrev b_C_difference : ByteArray := prog_2_method_3_code
def y_C_difference : MethodName := ⟨R_C, "difference", "(IIII)V"⟩
theorem hd_C_difference : y_C_difference.cls ≠ "java/lang/invoke/MethodHandle" ∧ y_C_difference.cls ≠ "java/lang/invoke/VarHandle" ∧ (parseMethodDescriptor y_C_difference.desc).map (fun d => d.parameters.length) = some 4 := by decide +kernel
abbrev rm_C_difference : Room := { frames := 2, cells := 0, slots := 0, locals := 48 }
abbrev b_C_product : ByteArray := prog_2_method_4_code
def y_C_product : MethodName := ⟨R_C, "product", "(IIII)V"⟩
theorem hd_C_product : y_C_product.cls ≠ "java/lang/invoke/MethodHandle" ∧ y_C_product.cls ≠ "java/lang/invoke/VarHandle" ∧ (parseMethodDescriptor y_C_product.desc).map (fun d => d.parameters.length) = some 4 := by decide +kernel
abbrev rm_C_product : Room := { frames := 2, cells := 0, slots := 0, locals := 48 }
abbrev b_C_addBit : ByteArray := prog_2_method_5_code
def y_C_addBit : MethodName := ⟨R_C, "addBit", "(III)V"⟩
theorem hd_C_addBit : y_C_addBit.cls ≠ "java/lang/invoke/MethodHandle" ∧ y_C_addBit.cls ≠ "java/lang/invoke/VarHandle" ∧ (parseMethodDescriptor y_C_addBit.desc).map (fun d => d.parameters.length) = some 3 := by decide +kernel
abbrev rm_C_addBit : Room := { frames := 1, cells := 0, slots := 0, locals := 25 }
abbrev b_C_moveUp : ByteArray := prog_2_method_6_code
def y_C_moveUp : MethodName := ⟨R_C, "moveUp", "(IIII)V"⟩
theorem hd_C_moveUp : y_C_moveUp.cls ≠ "java/lang/invoke/MethodHandle" ∧ y_C_moveUp.cls ≠ "java/lang/invoke/VarHandle" ∧ (parseMethodDescriptor y_C_moveUp.desc).map (fun d => d.parameters.length) = some 4 := by decide +kernel
abbrev rm_C_moveUp : Room := { frames := 1, cells := 0, slots := 0, locals := 24 }
abbrev b_C_moveDown : ByteArray := prog_2_method_7_code
def y_C_moveDown : MethodName := ⟨R_C, "moveDown", "(IIIIZ)V"⟩
theorem hd_C_moveDown : y_C_moveDown.cls ≠ "java/lang/invoke/MethodHandle" ∧ y_C_moveDown.cls ≠ "java/lang/invoke/VarHandle" ∧ (parseMethodDescriptor y_C_moveDown.desc).map (fun d => d.parameters.length) = some 5 := by decide +kernel
abbrev rm_C_moveDown : Room := { frames := 1, cells := 0, slots := 0, locals := 24 }
abbrev b_C_choice : ByteArray := prog_2_method_8_code
def y_C_choice : MethodName := ⟨R_C, "choice", "(IIIII)V"⟩
theorem hd_C_choice : y_C_choice.cls ≠ "java/lang/invoke/MethodHandle" ∧ y_C_choice.cls ≠ "java/lang/invoke/VarHandle" ∧ (parseMethodDescriptor y_C_choice.desc).map (fun d => d.parameters.length) = some 5 := by decide +kernel
abbrev rm_C_choice : Room := { frames := 1, cells := 0, slots := 0, locals := 27 }
abbrev b_C_equal : ByteArray := prog_2_method_9_code
def y_C_equal : MethodName := ⟨R_C, "equal", "(IIII)V"⟩
theorem hd_C_equal : y_C_equal.cls ≠ "java/lang/invoke/MethodHandle" ∧ y_C_equal.cls ≠ "java/lang/invoke/VarHandle" ∧ (parseMethodDescriptor y_C_equal.desc).map (fun d => d.parameters.length) = some 4 := by decide +kernel
abbrev rm_C_equal : Room := { frames := 1, cells := 0, slots := 0, locals := 25 }
abbrev b_C_less : ByteArray := prog_2_method_10_code
def y_C_less : MethodName := ⟨R_C, "less", "(IIIIZ)V"⟩
theorem hd_C_less : y_C_less.cls ≠ "java/lang/invoke/MethodHandle" ∧ y_C_less.cls ≠ "java/lang/invoke/VarHandle" ∧ (parseMethodDescriptor y_C_less.desc).map (fun d => d.parameters.length) = some 5 := by decide +kernel
abbrev rm_C_less : Room := { frames := 1, cells := 0, slots := 0, locals := 27 }
abbrev b_C_atMost : ByteArray := prog_2_method_11_code
def y_C_atMost : MethodName := ⟨R_C, "atMost", "(IIIIZ)V"⟩
theorem hd_C_atMost : y_C_atMost.cls ≠ "java/lang/invoke/MethodHandle" ∧ y_C_atMost.cls ≠ "java/lang/invoke/VarHandle" ∧ (parseMethodDescriptor y_C_atMost.desc).map (fun d => d.parameters.length) = some 5 := by decide +kernel
abbrev rm_C_atMost : Room := { frames := 2, cells := 0, slots := 0, locals := 54 }
abbrev b_S_init : ByteArray := prog_3_method_1_code
def y_S_init : MethodName := ⟨R_S, "<init>", "(I)V"⟩
theorem hd_S_init : y_S_init.cls ≠ "java/lang/invoke/MethodHandle" ∧ y_S_init.cls ≠ "java/lang/invoke/VarHandle" ∧ (parseMethodDescriptor y_S_init.desc).map (fun d => d.parameters.length) = some 1 := by decide +kernel
abbrev rm_S_init : Room := { frames := 1, cells := 0, slots := 0, locals := 24 }
abbrev b_S_fill : ByteArray := prog_3_method_2_code
def y_S_fill : MethodName := ⟨R_S, "fill", "(IIZ)V"⟩
theorem hd_S_fill : y_S_fill.cls ≠ "java/lang/invoke/MethodHandle" ∧ y_S_fill.cls ≠ "java/lang/invoke/VarHandle" ∧ (parseMethodDescriptor y_S_fill.desc).map (fun d => d.parameters.length) = some 3 := by decide +kernel
abbrev rm_S_fill : Room := { frames := 0, cells := 0, slots := 0, locals := 0 }
abbrev b_S_fillByPlace : ByteArray := prog_3_method_3_code
def y_S_fillByPlace : MethodName := ⟨R_S, "fillByPlace", "(II)V"⟩
theorem hd_S_fillByPlace : y_S_fillByPlace.cls ≠ "java/lang/invoke/MethodHandle" ∧ y_S_fillByPlace.cls ≠ "java/lang/invoke/VarHandle" ∧ (parseMethodDescriptor y_S_fillByPlace.desc).map (fun d => d.parameters.length) = some 2 := by decide +kernel
abbrev rm_S_fillByPlace : Room := { frames := 1, cells := 0, slots := 0, locals := 21 }
abbrev b_S_wordByPlace : ByteArray := prog_3_method_4_code
def y_S_wordByPlace : MethodName := ⟨R_S, "wordByPlace", "(II)J"⟩
theorem hd_S_wordByPlace : y_S_wordByPlace.cls ≠ "java/lang/invoke/MethodHandle" ∧ y_S_wordByPlace.cls ≠ "java/lang/invoke/VarHandle" ∧ (parseMethodDescriptor y_S_wordByPlace.desc).map (fun d => d.parameters.length) = some 2 := by decide +kernel
abbrev rm_S_wordByPlace : Room := { frames := 0, cells := 0, slots := 0, locals := 0 }
abbrev b_S_copy : ByteArray := prog_3_method_5_code
def y_S_copy : MethodName := ⟨R_S, "copy", "(III)V"⟩
theorem hd_S_copy : y_S_copy.cls ≠ "java/lang/invoke/MethodHandle" ∧ y_S_copy.cls ≠ "java/lang/invoke/VarHandle" ∧ (parseMethodDescriptor y_S_copy.desc).map (fun d => d.parameters.length) = some 3 := by decide +kernel
abbrev rm_S_copy : Room := { frames := 0, cells := 0, slots := 0, locals := 0 }
abbrev b_S_turn : ByteArray := prog_3_method_6_code
def y_S_turn : MethodName := ⟨R_S, "turn", "(III)V"⟩
theorem hd_S_turn : y_S_turn.cls ≠ "java/lang/invoke/MethodHandle" ∧ y_S_turn.cls ≠ "java/lang/invoke/VarHandle" ∧ (parseMethodDescriptor y_S_turn.desc).map (fun d => d.parameters.length) = some 3 := by decide +kernel
abbrev rm_S_turn : Room := { frames := 0, cells := 0, slots := 0, locals := 0 }
abbrev b_S_and : ByteArray := prog_3_method_7_code
def y_S_and : MethodName := ⟨R_S, "and", "(IIII)V"⟩
theorem hd_S_and : y_S_and.cls ≠ "java/lang/invoke/MethodHandle" ∧ y_S_and.cls ≠ "java/lang/invoke/VarHandle" ∧ (parseMethodDescriptor y_S_and.desc).map (fun d => d.parameters.length) = some 4 := by decide +kernel
abbrev rm_S_and : Room := { frames := 0, cells := 0, slots := 0, locals := 0 }
abbrev b_S_or : ByteArray := prog_3_method_8_code
def y_S_or : MethodName := ⟨R_S, "or", "(IIII)V"⟩
theorem hd_S_or : y_S_or.cls ≠ "java/lang/invoke/MethodHandle" ∧ y_S_or.cls ≠ "java/lang/invoke/VarHandle" ∧ (parseMethodDescriptor y_S_or.desc).map (fun d => d.parameters.length) = some 4 := by decide +kernel
abbrev rm_S_or : Room := { frames := 0, cells := 0, slots := 0, locals := 0 }
abbrev b_S_exclusive : ByteArray := prog_3_method_9_code
def y_S_exclusive : MethodName := ⟨R_S, "exclusive", "(IIII)V"⟩
theorem hd_S_exclusive : y_S_exclusive.cls ≠ "java/lang/invoke/MethodHandle" ∧ y_S_exclusive.cls ≠ "java/lang/invoke/VarHandle" ∧ (parseMethodDescriptor y_S_exclusive.desc).map (fun d => d.parameters.length) = some 4 := by decide +kernel
abbrev rm_S_exclusive : Room := { frames := 0, cells := 0, slots := 0, locals := 0 }
abbrev b_S_choose : ByteArray := prog_3_method_10_code
def y_S_choose : MethodName := ⟨R_S, "choose", "(IIII)V"⟩
theorem hd_S_choose : y_S_choose.cls ≠ "java/lang/invoke/MethodHandle" ∧ y_S_choose.cls ≠ "java/lang/invoke/VarHandle" ∧ (parseMethodDescriptor y_S_choose.desc).map (fun d => d.parameters.length) = some 4 := by decide +kernel
abbrev rm_S_choose : Room := { frames := 0, cells := 0, slots := 0, locals := 0 }
abbrev b_S_remove : ByteArray := prog_3_method_11_code
def y_S_remove : MethodName := ⟨R_S, "remove", "(II)V"⟩
theorem hd_S_remove : y_S_remove.cls ≠ "java/lang/invoke/MethodHandle" ∧ y_S_remove.cls ≠ "java/lang/invoke/VarHandle" ∧ (parseMethodDescriptor y_S_remove.desc).map (fun d => d.parameters.length) = some 2 := by decide +kernel
abbrev rm_S_remove : Room := { frames := 0, cells := 0, slots := 0, locals := 0 }
abbrev b_S_isEmpty : ByteArray := prog_3_method_12_code
def y_S_isEmpty : MethodName := ⟨R_S, "isEmpty", "(I)Z"⟩
theorem hd_S_isEmpty : y_S_isEmpty.cls ≠ "java/lang/invoke/MethodHandle" ∧ y_S_isEmpty.cls ≠ "java/lang/invoke/VarHandle" ∧ (parseMethodDescriptor y_S_isEmpty.desc).map (fun d => d.parameters.length) = some 1 := by decide +kernel
abbrev rm_S_isEmpty : Room := { frames := 1, cells := 0, slots := 0, locals := 23 }
abbrev b_S_meets : ByteArray := prog_3_method_13_code
def y_S_meets : MethodName := ⟨R_S, "meets", "(II)Z"⟩
theorem hd_S_meets : y_S_meets.cls ≠ "java/lang/invoke/MethodHandle" ∧ y_S_meets.cls ≠ "java/lang/invoke/VarHandle" ∧ (parseMethodDescriptor y_S_meets.desc).map (fun d => d.parameters.length) = some 2 := by decide +kernel
abbrev rm_S_meets : Room := { frames := 1, cells := 0, slots := 0, locals := 23 }
abbrev b_S_isWithout : ByteArray := prog_3_method_14_code
def y_S_isWithout : MethodName := ⟨R_S, "isWithout", "(II)Z"⟩
theorem hd_S_isWithout : y_S_isWithout.cls ≠ "java/lang/invoke/MethodHandle" ∧ y_S_isWithout.cls ≠ "java/lang/invoke/VarHandle" ∧ (parseMethodDescriptor y_S_isWithout.desc).map (fun d => d.parameters.length) = some 2 := by decide +kernel
abbrev rm_S_isWithout : Room := { frames := 0, cells := 0, slots := 0, locals := 0 }
abbrev b_S_isWithin : ByteArray := prog_3_method_15_code
def y_S_isWithin : MethodName := ⟨R_S, "isWithin", "(II)Z"⟩
theorem hd_S_isWithin : y_S_isWithin.cls ≠ "java/lang/invoke/MethodHandle" ∧ y_S_isWithin.cls ≠ "java/lang/invoke/VarHandle" ∧ (parseMethodDescriptor y_S_isWithin.desc).map (fun d => d.parameters.length) = some 2 := by decide +kernel
abbrev rm_S_isWithin : Room := { frames := 0, cells := 0, slots := 0, locals := 0 }
abbrev b_S_contains : ByteArray := prog_3_method_16_code
def y_S_contains : MethodName := ⟨R_S, "contains", "(II)Z"⟩
theorem hd_S_contains : y_S_contains.cls ≠ "java/lang/invoke/MethodHandle" ∧ y_S_contains.cls ≠ "java/lang/invoke/VarHandle" ∧ (parseMethodDescriptor y_S_contains.desc).map (fun d => d.parameters.length) = some 2 := by decide +kernel
abbrev rm_S_contains : Room := { frames := 0, cells := 0, slots := 0, locals := 0 }
abbrev b_S_lowest : ByteArray := prog_3_method_17_code
def y_S_lowest : MethodName := ⟨R_S, "lowest", "(I)I"⟩
theorem hd_S_lowest : y_S_lowest.cls ≠ "java/lang/invoke/MethodHandle" ∧ y_S_lowest.cls ≠ "java/lang/invoke/VarHandle" ∧ (parseMethodDescriptor y_S_lowest.desc).map (fun d => d.parameters.length) = some 1 := by decide +kernel
abbrev rm_S_lowest : Room := { frames := 1, cells := 0, slots := 0, locals := 22 }
abbrev b_S_lowestOne : ByteArray := prog_3_method_18_code
def y_S_lowestOne : MethodName := ⟨R_S, "lowestOne", "(J)I"⟩
theorem hd_S_lowestOne : y_S_lowestOne.cls ≠ "java/lang/invoke/MethodHandle" ∧ y_S_lowestOne.cls ≠ "java/lang/invoke/VarHandle" ∧ (parseMethodDescriptor y_S_lowestOne.desc).map (fun d => d.parameters.length) = some 1 := by decide +kernel
abbrev rm_S_lowestOne : Room := { frames := 0, cells := 0, slots := 0, locals := 0 }
abbrev b_L_variable : ByteArray := method_3_code
def y_L_variable : MethodName := ⟨R_L, "variable", "(LBitSolver;I[J)I"⟩
theorem hd_L_variable : y_L_variable.cls ≠ "java/lang/invoke/MethodHandle" ∧ y_L_variable.cls ≠ "java/lang/invoke/VarHandle" ∧ (parseMethodDescriptor y_L_variable.desc).map (fun d => d.parameters.length) = some 3 := by decide +kernel
abbrev rm_L_variable : Room := { frames := 2, cells := 0, slots := 0, locals := 41 }
abbrev b_L_term : ByteArray := method_4_code
def y_L_term : MethodName := ⟨R_L, "term", "(LBitSolver;IIII[J)I"⟩
theorem hd_L_term : y_L_term.cls ≠ "java/lang/invoke/MethodHandle" ∧ y_L_term.cls ≠ "java/lang/invoke/VarHandle" ∧ (parseMethodDescriptor y_L_term.desc).map (fun d => d.parameters.length) = some 6 := by decide +kernel
abbrev rm_L_term : Room := { frames := 5, cells := 0, slots := 0, locals := 124 }
abbrev b_L_formula : ByteArray := method_5_code
def y_L_formula : MethodName := ⟨R_L, "formula", "(LBitSolver;III[J)I"⟩
theorem hd_L_formula : y_L_formula.cls ≠ "java/lang/invoke/MethodHandle" ∧ y_L_formula.cls ≠ "java/lang/invoke/VarHandle" ∧ (parseMethodDescriptor y_L_formula.desc).map (fun d => d.parameters.length) = some 5 := by decide +kernel
abbrev rm_L_formula : Room := { frames := 5, cells := 0, slots := 0, locals := 127 }
abbrev b_L_assertion : ByteArray := method_6_code
def y_L_assertion : MethodName := ⟨R_L, "assertion", "(LBitSolver;I[J)I"⟩
theorem hd_L_assertion : y_L_assertion.cls ≠ "java/lang/invoke/MethodHandle" ∧ y_L_assertion.cls ≠ "java/lang/invoke/VarHandle" ∧ (parseMethodDescriptor y_L_assertion.desc).map (fun d => d.parameters.length) = some 3 := by decide +kernel
abbrev rm_L_assertion : Room := { frames := 2, cells := 0, slots := 0, locals := 46 }
abbrev b_L_push : ByteArray := method_7_code
def y_L_push : MethodName := ⟨R_L, "push", "(LBitSolver;[J)I"⟩
theorem hd_L_push : y_L_push.cls ≠ "java/lang/invoke/MethodHandle" ∧ y_L_push.cls ≠ "java/lang/invoke/VarHandle" ∧ (parseMethodDescriptor y_L_push.desc).map (fun d => d.parameters.length) = some 2 := by decide +kernel
abbrev rm_L_push : Room := { frames := 2, cells := 0, slots := 0, locals := 44 }
abbrev b_L_pop : ByteArray := method_8_code
def y_L_pop : MethodName := ⟨R_L, "pop", "(LBitSolver;[J)I"⟩
theorem hd_L_pop : y_L_pop.cls ≠ "java/lang/invoke/MethodHandle" ∧ y_L_pop.cls ≠ "java/lang/invoke/VarHandle" ∧ (parseMethodDescriptor y_L_pop.desc).map (fun d => d.parameters.length) = some 2 := by decide +kernel
abbrev rm_L_pop : Room := { frames := 1, cells := 0, slots := 0, locals := 21 }
abbrev b_L_value : ByteArray := method_9_code
def y_L_value : MethodName := ⟨R_L, "value", "(LBitSolver;I[J)I"⟩
theorem hd_L_value : y_L_value.cls ≠ "java/lang/invoke/MethodHandle" ∧ y_L_value.cls ≠ "java/lang/invoke/VarHandle" ∧ (parseMethodDescriptor y_L_value.desc).map (fun d => d.parameters.length) = some 3 := by decide +kernel
abbrev rm_L_value : Room := { frames := 4, cells := 0, slots := 0, locals := 86 }
abbrev b_L_valueOf : ByteArray := method_10_code
def y_L_valueOf : MethodName := ⟨R_L, "valueOf", "(LBitSolver;I[J)I"⟩
theorem hd_L_valueOf : y_L_valueOf.cls ≠ "java/lang/invoke/MethodHandle" ∧ y_L_valueOf.cls ≠ "java/lang/invoke/VarHandle" ∧ (parseMethodDescriptor y_L_valueOf.desc).map (fun d => d.parameters.length) = some 3 := by decide +kernel
abbrev rm_L_valueOf : Room := { frames := 4, cells := 0, slots := 0, locals := 88 }
abbrev b_L_entailed : ByteArray := method_11_code
def y_L_entailed : MethodName := ⟨R_L, "entailed", "(LBitSolver;I[J)I"⟩
theorem hd_L_entailed : y_L_entailed.cls ≠ "java/lang/invoke/MethodHandle" ∧ y_L_entailed.cls ≠ "java/lang/invoke/VarHandle" ∧ (parseMethodDescriptor y_L_entailed.desc).map (fun d => d.parameters.length) = some 3 := by decide +kernel
abbrev rm_L_entailed : Room := { frames := 4, cells := 0, slots := 0, locals := 85 }
abbrev b_L_fixed : ByteArray := method_12_code
def y_L_fixed : MethodName := ⟨R_L, "fixed", "(LBitSolver;I[J)I"⟩
theorem hd_L_fixed : y_L_fixed.cls ≠ "java/lang/invoke/MethodHandle" ∧ y_L_fixed.cls ≠ "java/lang/invoke/VarHandle" ∧ (parseMethodDescriptor y_L_fixed.desc).map (fun d => d.parameters.length) = some 3 := by decide +kernel
abbrev rm_L_fixed : Room := { frames := 4, cells := 0, slots := 0, locals := 87 }
abbrev b_L_least : ByteArray := method_13_code
def y_L_least : MethodName := ⟨R_L, "least", "(LBitSolver;I[J)I"⟩
theorem hd_L_least : y_L_least.cls ≠ "java/lang/invoke/MethodHandle" ∧ y_L_least.cls ≠ "java/lang/invoke/VarHandle" ∧ (parseMethodDescriptor y_L_least.desc).map (fun d => d.parameters.length) = some 3 := by decide +kernel
abbrev rm_L_least : Room := { frames := 4, cells := 0, slots := 0, locals := 87 }
abbrev b_L_assume : ByteArray := method_14_code
def y_L_assume : MethodName := ⟨R_L, "assume", "(LBitSolver;I[J)I"⟩
theorem hd_L_assume : y_L_assume.cls ≠ "java/lang/invoke/MethodHandle" ∧ y_L_assume.cls ≠ "java/lang/invoke/VarHandle" ∧ (parseMethodDescriptor y_L_assume.desc).map (fun d => d.parameters.length) = some 3 := by decide +kernel
abbrev rm_L_assume : Room := { frames := 2, cells := 0, slots := 0, locals := 42 }
abbrev b_L_blame : ByteArray := method_15_code
def y_L_blame : MethodName := ⟨R_L, "blame", "(LBitSolver;[J)I"⟩
theorem hd_L_blame : y_L_blame.cls ≠ "java/lang/invoke/MethodHandle" ∧ y_L_blame.cls ≠ "java/lang/invoke/VarHandle" ∧ (parseMethodDescriptor y_L_blame.desc).map (fun d => d.parameters.length) = some 2 := by decide +kernel
abbrev rm_L_blame : Room := { frames := 4, cells := 0, slots := 0, locals := 89 }
abbrev b_L_count : ByteArray := method_16_code
def y_L_count : MethodName := ⟨R_L, "count", "(LBitSolver;I[J)I"⟩
theorem hd_L_count : y_L_count.cls ≠ "java/lang/invoke/MethodHandle" ∧ y_L_count.cls ≠ "java/lang/invoke/VarHandle" ∧ (parseMethodDescriptor y_L_count.desc).map (fun d => d.parameters.length) = some 3 := by decide +kernel
abbrev rm_L_count : Room := { frames := 1, cells := 0, slots := 0, locals := 21 }
abbrev b_L_law : ByteArray := code
def lw_ok : List Cond := lw_tbl.filter goodWord
abbrev wk (y : MethodName) (b : ByteArray) (n : Nat) (r : Option FieldType) : List Cond := Cond.code y b n r :: lw_ok
theorem lw_good : ∀ w ∈ lw_ok, w ∈ lw_ok ∧ ((w.onTables && w.keeps) = true ∨ ∃ ty, w = .arrayClass ty) := fun w h => ⟨h, good_of_word (List.mem_filter.mp h).2⟩
theorem gW {y : MethodName} {b : ByteArray} {n : Nat} {r : Option FieldType} (h : Cond.code y b n r ∈ lw_ok) : GoodIn lw_ok (wk y b n r) := fun w hw => (List.mem_cons.mp hw).elim (fun e => by rw [e]; exact lw_good _ h) (fun h => lw_good w h)
theorem wd_t {w : Cond} (i : Nat) (h : tables_1[i]? = some w) (hg : goodWord w = true) : w ∈ lw_ok := List.mem_filter.mpr ⟨List.mem_append_right _ (List.mem_of_getElem? h), hg⟩
theorem wd_s {w : Cond} (i : Nat) (h : (k2_sels lw_privs)[i]? = some w) (hg : goodWord w = true) : w ∈ lw_ok := List.mem_filter.mpr ⟨List.mem_append_left _ (List.mem_of_getElem? h), hg⟩
end
section
/-! the words of the tables, each with its place -/
theorem wd_0 : (Jvm.Cond.initialized R_L) ∈ lw_ok := wd_t 0 (by decide +kernel) rfl
theorem wd_1 : (Jvm.Cond.initialized R_B) ∈ lw_ok := wd_t 1 (by decide +kernel) rfl
theorem wd_2 : (Jvm.Cond.initialized R_C) ∈ lw_ok := wd_t 2 (by decide +kernel) rfl
theorem wd_3 : (Jvm.Cond.initialized R_S) ∈ lw_ok := wd_t 3 (by decide +kernel) rfl
theorem wd_4 : (Jvm.Cond.initialized R_M) ∈ lw_ok := wd_t 4 (by decide +kernel) rfl
theorem wd_5 : (Jvm.Cond.initialized "java/lang/Throwable") ∈ lw_ok := wd_t 5 (by decide +kernel) rfl
theorem wd_6 : (Jvm.Cond.initialized "java/lang/Exception") ∈ lw_ok := wd_t 6 (by decide +kernel) rfl
theorem wd_7 : (Jvm.Cond.initialized "java/lang/RuntimeException") ∈ lw_ok := wd_t 7 (by decide +kernel) rfl
theorem wd_8 : (Jvm.Cond.initialized "java/lang/IllegalArgumentException") ∈ lw_ok := wd_t 8 (by decide +kernel) rfl
theorem wd_9 : (Jvm.Cond.initialized "java/lang/IllegalStateException") ∈ lw_ok := wd_t 9 (by decide +kernel) rfl
theorem wd_10 : (Jvm.Cond.initialized "java/util/NoSuchElementException") ∈ lw_ok := wd_t 10 (by decide +kernel) rfl
theorem wd_11 : (Jvm.Cond.initialized "java/lang/UnsupportedOperationException") ∈ lw_ok := wd_t 11 (by decide +kernel) rfl
theorem wd_12 : (Jvm.Cond.classLink R_L (8 : Nat) "BitSolver") ∈ lw_ok := wd_t 12 (by decide +kernel) rfl
theorem wd_13 : (Jvm.Cond.instantiable R_B (14 : Nat)) ∈ lw_ok := wd_t 13 (by decide +kernel) rfl
theorem wd_14 : (Jvm.Cond.methodLink R_L (63 : Nat) y_B_init) ∈ lw_ok := wd_t 14 (by decide +kernel) rfl
theorem wd_15 : (Jvm.Cond.instanceMethod y_B_init) ∈ lw_ok := wd_t 15 (by decide +kernel) rfl
theorem wd_16 : (Jvm.Cond.code y_B_init prog_1_method_1_code (1 : Nat) (Option.none : Option Jvm.ClassFile.FieldType)) ∈ lw_ok := wd_t 16 (by decide +kernel) rfl
theorem wd_17 : (Jvm.Cond.methodLink R_B (3 : Nat) objectInit) ∈ lw_ok := wd_t 17 (by decide +kernel) rfl
theorem wd_18 : (Jvm.Cond.instanceMethod objectInit) ∈ lw_ok := wd_t 18 (by decide +kernel) rfl
theorem wd_19 : (Jvm.Cond.code objectInit object_method_1_code (1 : Nat) (Option.none : Option Jvm.ClassFile.FieldType)) ∈ lw_ok := wd_t 19 (by decide +kernel) rfl
theorem wd_20 : (Jvm.Cond.classLink R_B (9 : Nat) "BitSolver$Circuits") ∈ lw_ok := wd_t 20 (by decide +kernel) rfl
theorem wd_21 : (Jvm.Cond.instantiable R_C (1 : Nat)) ∈ lw_ok := wd_t 21 (by decide +kernel) rfl
theorem wd_22 : (Jvm.Cond.methodLink R_B (11 : Nat) y_C_init) ∈ lw_ok := wd_t 22 (by decide +kernel) rfl
theorem wd_23 : (Jvm.Cond.instanceMethod y_C_init) ∈ lw_ok := wd_t 23 (by decide +kernel) rfl
theorem wd_24 : (Jvm.Cond.code y_C_init prog_2_method_1_code (1 : Nat) (Option.none : Option Jvm.ClassFile.FieldType)) ∈ lw_ok := wd_t 24 (by decide +kernel) rfl
theorem wd_25 : (Jvm.Cond.methodLink R_C (3 : Nat) objectInit) ∈ lw_ok := wd_t 25 (by decide +kernel) rfl
theorem wd_26 : (Jvm.Cond.classLink R_C (9 : Nat) "BitSolver$Sets") ∈ lw_ok := wd_t 26 (by decide +kernel) rfl
theorem wd_27 : (Jvm.Cond.instantiable R_S (1 : Nat)) ∈ lw_ok := wd_t 27 (by decide +kernel) rfl
theorem wd_28 : (Jvm.Cond.methodLink R_C (11 : Nat) y_S_init) ∈ lw_ok := wd_t 28 (by decide +kernel) rfl
theorem wd_29 : (Jvm.Cond.instanceMethod y_S_init) ∈ lw_ok := wd_t 29 (by decide +kernel) rfl
theorem wd_30 : (Jvm.Cond.code y_S_init prog_3_method_1_code (2 : Nat) (Option.none : Option Jvm.ClassFile.FieldType)) ∈ lw_ok := wd_t 30 (by decide +kernel) rfl
theorem wd_31 : (Jvm.Cond.methodLink R_S (5 : Nat) objectInit) ∈ lw_ok := wd_t 31 (by decide +kernel) rfl
theorem wd_32 : (Jvm.Cond.fieldLink R_S (11 : Nat) "BitSolver$Sets" "words" "[J") ∈ lw_ok := wd_t 32 (by decide +kernel) rfl
theorem wd_33 : (Jvm.Cond.laysFinal R_S "BitSolver$Sets" "words" "[J") ∈ lw_ok := wd_t 33 (by decide +kernel) rfl
theorem wd_34 : (Jvm.Cond.soleField R_S "words") ∈ lw_ok := wd_t 34 (by decide +kernel) rfl
theorem wd_35 : (Jvm.Cond.superclass R_S "java/lang/Object") ∈ lw_ok := wd_t 35 (by decide +kernel) rfl
theorem wd_36 : (Jvm.Cond.arrayClass Jvm.ClassFile.FieldType.long) ∈ lw_ok := wd_t 36 (by decide +kernel) rfl
theorem wd_37 : (Jvm.Cond.fieldLink R_C (14 : Nat) "BitSolver$Circuits" "sets" "LBitSolver$Sets;") ∈ lw_ok := wd_t 37 (by decide +kernel) rfl
theorem wd_39 : (Jvm.Cond.laysFinal R_C "BitSolver$Circuits" "sets" "LBitSolver$Sets;") ∈ lw_ok := wd_t 39 (by decide +kernel) rfl
theorem wd_40 : (Jvm.Cond.soleField R_C "sets") ∈ lw_ok := wd_t 40 (by decide +kernel) rfl
theorem wd_41 : (Jvm.Cond.superclass R_C "java/lang/Object") ∈ lw_ok := wd_t 41 (by decide +kernel) rfl
theorem wd_42 : (Jvm.Cond.methodLink R_B (37 : Nat) y_S_fill) ∈ lw_ok := wd_t 42 (by decide +kernel) rfl
theorem wd_43 : (Jvm.Cond.instanceMethod y_S_fill) ∈ lw_ok := wd_t 43 (by decide +kernel) rfl
theorem wd_44 : (Jvm.Cond.selects R_S y_S_fill y_S_fill) ∈ lw_ok := wd_t 44 (by decide +kernel) rfl
theorem wd_45 : (Jvm.Cond.code y_S_fill prog_3_method_2_code (5 : Nat) (Option.none : Option Jvm.ClassFile.FieldType)) ∈ lw_ok := wd_t 45 (by decide +kernel) rfl
theorem wd_46 : (Jvm.Cond.constantLong R_S (15 : Nat) (-1 : Int64)) ∈ lw_ok := wd_t 46 (by decide +kernel) rfl
theorem wd_47 : (Jvm.Cond.fieldLink R_B (20 : Nat) "BitSolver" "sets" "LBitSolver$Sets;") ∈ lw_ok := wd_t 47 (by decide +kernel) rfl
theorem wd_48 : (Jvm.Cond.fieldLink R_B (12 : Nat) "BitSolver" "circuits" "LBitSolver$Circuits;") ∈ lw_ok := wd_t 48 (by decide +kernel) rfl
theorem wd_49 : (Jvm.Cond.fieldLink R_B (21 : Nat) "BitSolver" "variableWidths" "[I") ∈ lw_ok := wd_t 49 (by decide +kernel) rfl
theorem wd_50 : (Jvm.Cond.fieldLink R_B (25 : Nat) "BitSolver" "variablePlaces" "[I") ∈ lw_ok := wd_t 50 (by decide +kernel) rfl
theorem wd_51 : (Jvm.Cond.fieldLink R_B (50 : Nat) "BitSolver" "variableCount" "I") ∈ lw_ok := wd_t 51 (by decide +kernel) rfl
theorem wd_52 : (Jvm.Cond.fieldLink R_B (54 : Nat) "BitSolver" "bitCount" "I") ∈ lw_ok := wd_t 52 (by decide +kernel) rfl
theorem wd_53 : (Jvm.Cond.fieldLink R_B (28 : Nat) "BitSolver" "termWidths" "[I") ∈ lw_ok := wd_t 53 (by decide +kernel) rfl
theorem wd_54 : (Jvm.Cond.fieldLink R_B (64 : Nat) "BitSolver" "termCount" "I") ∈ lw_ok := wd_t 54 (by decide +kernel) rfl
theorem wd_55 : (Jvm.Cond.fieldLink R_B (82 : Nat) "BitSolver" "formulaCount" "I") ∈ lw_ok := wd_t 55 (by decide +kernel) rfl
theorem wd_56 : (Jvm.Cond.fieldLink R_B (31 : Nat) "BitSolver" "assertedBefore" "[I") ∈ lw_ok := wd_t 56 (by decide +kernel) rfl
theorem wd_57 : (Jvm.Cond.fieldLink R_B (97 : Nat) "BitSolver" "assertedCount" "I") ∈ lw_ok := wd_t 57 (by decide +kernel) rfl
theorem wd_58 : (Jvm.Cond.fieldLink R_B (107 : Nat) "BitSolver" "level" "I") ∈ lw_ok := wd_t 58 (by decide +kernel) rfl
theorem wd_59 : (Jvm.Cond.fieldLink R_B (34 : Nat) "BitSolver" "assumptions" "[I") ∈ lw_ok := wd_t 59 (by decide +kernel) rfl
theorem wd_60 : (Jvm.Cond.fieldLink R_B (150 : Nat) "BitSolver" "assumptionCount" "I") ∈ lw_ok := wd_t 60 (by decide +kernel) rfl
theorem wd_61 : (Jvm.Cond.laysFinal R_B "BitSolver" "sets" "LBitSolver$Sets;") ∈ lw_ok := wd_t 61 (by decide +kernel) rfl
theorem wd_62 : (Jvm.Cond.soleField R_B "sets") ∈ lw_ok := wd_t 62 (by decide +kernel) rfl
theorem wd_63 : (Jvm.Cond.laysFinal R_B "BitSolver" "circuits" "LBitSolver$Circuits;") ∈ lw_ok := wd_t 63 (by decide +kernel) rfl
theorem wd_64 : (Jvm.Cond.soleField R_B "circuits") ∈ lw_ok := wd_t 64 (by decide +kernel) rfl
theorem wd_65 : (Jvm.Cond.laysFinal R_B "BitSolver" "variableWidths" "[I") ∈ lw_ok := wd_t 65 (by decide +kernel) rfl
theorem wd_66 : (Jvm.Cond.soleField R_B "variableWidths") ∈ lw_ok := wd_t 66 (by decide +kernel) rfl
theorem wd_67 : (Jvm.Cond.laysFinal R_B "BitSolver" "variablePlaces" "[I") ∈ lw_ok := wd_t 67 (by decide +kernel) rfl
theorem wd_68 : (Jvm.Cond.soleField R_B "variablePlaces") ∈ lw_ok := wd_t 68 (by decide +kernel) rfl
theorem wd_69 : (Jvm.Cond.lays R_B "BitSolver" "variableCount" "I") ∈ lw_ok := wd_t 69 (by decide +kernel) rfl
theorem wd_70 : (Jvm.Cond.soleField R_B "variableCount") ∈ lw_ok := wd_t 70 (by decide +kernel) rfl
theorem wd_71 : (Jvm.Cond.lays R_B "BitSolver" "bitCount" "I") ∈ lw_ok := wd_t 71 (by decide +kernel) rfl
theorem wd_72 : (Jvm.Cond.soleField R_B "bitCount") ∈ lw_ok := wd_t 72 (by decide +kernel) rfl
theorem wd_73 : (Jvm.Cond.laysFinal R_B "BitSolver" "termWidths" "[I") ∈ lw_ok := wd_t 73 (by decide +kernel) rfl
theorem wd_74 : (Jvm.Cond.soleField R_B "termWidths") ∈ lw_ok := wd_t 74 (by decide +kernel) rfl
theorem wd_75 : (Jvm.Cond.lays R_B "BitSolver" "termCount" "I") ∈ lw_ok := wd_t 75 (by decide +kernel) rfl
theorem wd_76 : (Jvm.Cond.soleField R_B "termCount") ∈ lw_ok := wd_t 76 (by decide +kernel) rfl
theorem wd_77 : (Jvm.Cond.lays R_B "BitSolver" "formulaCount" "I") ∈ lw_ok := wd_t 77 (by decide +kernel) rfl
theorem wd_78 : (Jvm.Cond.soleField R_B "formulaCount") ∈ lw_ok := wd_t 78 (by decide +kernel) rfl
theorem wd_79 : (Jvm.Cond.laysFinal R_B "BitSolver" "assertedBefore" "[I") ∈ lw_ok := wd_t 79 (by decide +kernel) rfl
theorem wd_80 : (Jvm.Cond.soleField R_B "assertedBefore") ∈ lw_ok := wd_t 80 (by decide +kernel) rfl
theorem wd_81 : (Jvm.Cond.lays R_B "BitSolver" "assertedCount" "I") ∈ lw_ok := wd_t 81 (by decide +kernel) rfl
theorem wd_82 : (Jvm.Cond.soleField R_B "assertedCount") ∈ lw_ok := wd_t 82 (by decide +kernel) rfl
theorem wd_83 : (Jvm.Cond.lays R_B "BitSolver" "level" "I") ∈ lw_ok := wd_t 83 (by decide +kernel) rfl
theorem wd_84 : (Jvm.Cond.soleField R_B "level") ∈ lw_ok := wd_t 84 (by decide +kernel) rfl
theorem wd_85 : (Jvm.Cond.laysFinal R_B "BitSolver" "assumptions" "[I") ∈ lw_ok := wd_t 85 (by decide +kernel) rfl
theorem wd_86 : (Jvm.Cond.soleField R_B "assumptions") ∈ lw_ok := wd_t 86 (by decide +kernel) rfl
theorem wd_87 : (Jvm.Cond.lays R_B "BitSolver" "assumptionCount" "I") ∈ lw_ok := wd_t 87 (by decide +kernel) rfl
theorem wd_88 : (Jvm.Cond.soleField R_B "assumptionCount") ∈ lw_ok := wd_t 88 (by decide +kernel) rfl
theorem wd_89 : (Jvm.Cond.superclass R_B "java/lang/Object") ∈ lw_ok := wd_t 89 (by decide +kernel) rfl
theorem wd_90 : (Jvm.Cond.arrayClass Jvm.ClassFile.FieldType.int) ∈ lw_ok := wd_t 90 (by decide +kernel) rfl
theorem wd_91 : (Jvm.Cond.methodLink R_L (94 : Nat) y_B_check) ∈ lw_ok := wd_t 91 (by decide +kernel) rfl
theorem wd_92 : (Jvm.Cond.instanceMethod y_B_check) ∈ lw_ok := wd_t 92 (by decide +kernel) rfl
theorem wd_93 : (Jvm.Cond.selects R_B y_B_check y_B_check) ∈ lw_ok := wd_t 93 (by decide +kernel) rfl
theorem wd_94 : (Jvm.Cond.code y_B_check prog_1_method_8_code (1 : Nat) (Option.some Jvm.ClassFile.FieldType.int)) ∈ lw_ok := wd_t 94 (by decide +kernel) rfl
theorem wd_95 : (Jvm.Cond.methodLink R_B (113 : Nat) y_B_hasModel) ∈ lw_ok := wd_t 95 (by decide +kernel) rfl
theorem wd_97 : (Jvm.Cond.instanceMethod y_B_hasModel) ∈ lw_ok := wd_t 97 (by decide +kernel) rfl
theorem wd_98 : (Jvm.Cond.code y_B_hasModel prog_1_method_23_code (1 : Nat) (Option.some Jvm.ClassFile.FieldType.boolean)) ∈ lw_ok := wd_t 98 (by decide +kernel) rfl
theorem wd_99 : (Jvm.Cond.methodLink R_B (100 : Nat) y_B_modelRow) ∈ lw_ok := wd_t 99 (by decide +kernel) rfl
theorem wd_101 : (Jvm.Cond.instanceMethod y_B_modelRow) ∈ lw_ok := wd_t 101 (by decide +kernel) rfl
theorem wd_102 : (Jvm.Cond.code y_B_modelRow prog_1_method_24_code (1 : Nat) (Option.some Jvm.ClassFile.FieldType.int)) ∈ lw_ok := wd_t 102 (by decide +kernel) rfl
theorem wd_103 : (Jvm.Cond.methodLink R_B (159 : Nat) y_S_isEmpty) ∈ lw_ok := wd_t 103 (by decide +kernel) rfl
theorem wd_104 : (Jvm.Cond.instanceMethod y_S_isEmpty) ∈ lw_ok := wd_t 104 (by decide +kernel) rfl
theorem wd_105 : (Jvm.Cond.selects R_S y_S_isEmpty y_S_isEmpty) ∈ lw_ok := wd_t 105 (by decide +kernel) rfl
theorem wd_106 : (Jvm.Cond.code y_S_isEmpty prog_3_method_12_code (2 : Nat) (Option.some Jvm.ClassFile.FieldType.boolean)) ∈ lw_ok := wd_t 106 (by decide +kernel) rfl
theorem wd_107 : (Jvm.Cond.methodLink R_S (24 : Nat) y_S_isWithout) ∈ lw_ok := wd_t 107 (by decide +kernel) rfl
theorem wd_109 : (Jvm.Cond.instanceMethod y_S_isWithout) ∈ lw_ok := wd_t 109 (by decide +kernel) rfl
theorem wd_110 : (Jvm.Cond.code y_S_isWithout prog_3_method_14_code (4 : Nat) (Option.some Jvm.ClassFile.FieldType.boolean)) ∈ lw_ok := wd_t 110 (by decide +kernel) rfl
theorem wd_111 : (Jvm.Cond.methodLink R_L (116 : Nat) y_B_clear) ∈ lw_ok := wd_t 111 (by decide +kernel) rfl
theorem wd_112 : (Jvm.Cond.instanceMethod y_B_clear) ∈ lw_ok := wd_t 112 (by decide +kernel) rfl
theorem wd_113 : (Jvm.Cond.selects R_B y_B_clear y_B_clear) ∈ lw_ok := wd_t 113 (by decide +kernel) rfl
theorem wd_114 : (Jvm.Cond.code y_B_clear prog_1_method_15_code (2 : Nat) (Option.some Jvm.ClassFile.FieldType.int)) ∈ lw_ok := wd_t 114 (by decide +kernel) rfl
theorem wd_115 : (Jvm.Cond.methodLink R_L (120 : Nat) y_B_attempt) ∈ lw_ok := wd_t 115 (by decide +kernel) rfl
theorem wd_116 : (Jvm.Cond.instanceMethod y_B_attempt) ∈ lw_ok := wd_t 116 (by decide +kernel) rfl
theorem wd_117 : (Jvm.Cond.selects R_B y_B_attempt y_B_attempt) ∈ lw_ok := wd_t 117 (by decide +kernel) rfl
theorem wd_118 : (Jvm.Cond.code y_B_attempt prog_1_method_16_code (1 : Nat) (Option.some Jvm.ClassFile.FieldType.int)) ∈ lw_ok := wd_t 118 (by decide +kernel) rfl
theorem wd_119 : (Jvm.Cond.methodLink R_B (153 : Nat) y_B_allAssumptions) ∈ lw_ok := wd_t 119 (by decide +kernel) rfl
theorem wd_121 : (Jvm.Cond.instanceMethod y_B_allAssumptions) ∈ lw_ok := wd_t 121 (by decide +kernel) rfl
theorem wd_122 : (Jvm.Cond.code y_B_allAssumptions prog_1_method_26_code (1 : Nat) (Option.some Jvm.ClassFile.FieldType.int)) ∈ lw_ok := wd_t 122 (by decide +kernel) rfl
theorem wd_123 : (Jvm.Cond.methodLink R_B (156 : Nat) y_B_canAssume) ∈ lw_ok := wd_t 123 (by decide +kernel) rfl
theorem wd_125 : (Jvm.Cond.instanceMethod y_B_canAssume) ∈ lw_ok := wd_t 125 (by decide +kernel) rfl
theorem wd_126 : (Jvm.Cond.code y_B_canAssume prog_1_method_27_code (3 : Nat) (Option.some Jvm.ClassFile.FieldType.boolean)) ∈ lw_ok := wd_t 126 (by decide +kernel) rfl
theorem wd_127 : (Jvm.Cond.methodLink R_B (110 : Nat) y_S_copy) ∈ lw_ok := wd_t 127 (by decide +kernel) rfl
theorem wd_128 : (Jvm.Cond.instanceMethod y_S_copy) ∈ lw_ok := wd_t 128 (by decide +kernel) rfl
theorem wd_129 : (Jvm.Cond.selects R_S y_S_copy y_S_copy) ∈ lw_ok := wd_t 129 (by decide +kernel) rfl
theorem wd_130 : (Jvm.Cond.code y_S_copy prog_3_method_5_code (5 : Nat) (Option.none : Option Jvm.ClassFile.FieldType)) ∈ lw_ok := wd_t 130 (by decide +kernel) rfl
theorem wd_131 : (Jvm.Cond.methodLink R_B (104 : Nat) y_S_and) ∈ lw_ok := wd_t 131 (by decide +kernel) rfl
theorem wd_132 : (Jvm.Cond.instanceMethod y_S_and) ∈ lw_ok := wd_t 132 (by decide +kernel) rfl
theorem wd_133 : (Jvm.Cond.selects R_S y_S_and y_S_and) ∈ lw_ok := wd_t 133 (by decide +kernel) rfl
theorem wd_134 : (Jvm.Cond.code y_S_and prog_3_method_7_code (6 : Nat) (Option.none : Option Jvm.ClassFile.FieldType)) ∈ lw_ok := wd_t 134 (by decide +kernel) rfl
theorem wd_135 : (Jvm.Cond.methodLink R_L (67 : Nat) y_L_variable) ∈ lw_ok := wd_t 135 (by decide +kernel) rfl
theorem wd_136 : (Jvm.Cond.static y_L_variable) ∈ lw_ok := wd_t 136 (by decide +kernel) rfl
theorem wd_137 : (Jvm.Cond.codeWith y_L_variable method_3_code (4 : Nat) (Option.some Jvm.ClassFile.FieldType.int) [((0 : Nat), (9 : Nat), (12 : Nat), (13 : Nat)), ((0 : Nat), (9 : Nat), (15 : Nat), (15 : Nat))]) ∈ lw_ok := wd_t 137 (by decide +kernel) rfl
theorem wd_138 : (Jvm.Cond.classLink R_L (13 : Nat) "java/lang/IllegalArgumentException") ∈ lw_ok := wd_t 138 (by decide +kernel) rfl
theorem wd_139 : (Jvm.Cond.classLink R_L (15 : Nat) "java/lang/IllegalStateException") ∈ lw_ok := wd_t 139 (by decide +kernel) rfl
theorem wd_140 : (Jvm.Cond.methodLink R_L (7 : Nat) y_B_variable) ∈ lw_ok := wd_t 140 (by decide +kernel) rfl
theorem wd_141 : (Jvm.Cond.instanceMethod y_B_variable) ∈ lw_ok := wd_t 141 (by decide +kernel) rfl
theorem wd_142 : (Jvm.Cond.selects R_B y_B_variable y_B_variable) ∈ lw_ok := wd_t 142 (by decide +kernel) rfl
theorem wd_143 : (Jvm.Cond.code y_B_variable prog_1_method_2_code (2 : Nat) (Option.some Jvm.ClassFile.FieldType.int)) ∈ lw_ok := wd_t 143 (by decide +kernel) rfl
theorem wd_144 : (Jvm.Cond.methodLink R_B (43 : Nat) y_B_isWidth) ∈ lw_ok := wd_t 144 (by decide +kernel) rfl
theorem wd_145 : (Jvm.Cond.static y_B_isWidth) ∈ lw_ok := wd_t 145 (by decide +kernel) rfl
theorem wd_146 : (Jvm.Cond.code y_B_isWidth prog_1_method_19_code (1 : Nat) (Option.some Jvm.ClassFile.FieldType.boolean)) ∈ lw_ok := wd_t 146 (by decide +kernel) rfl
theorem wd_147 : (Jvm.Cond.classLink R_B (47 : Nat) "java/lang/IllegalArgumentException") ∈ lw_ok := wd_t 147 (by decide +kernel) rfl
theorem wd_148 : (Jvm.Cond.instantiable "java/lang/IllegalArgumentException" (6 : Nat)) ∈ lw_ok := wd_t 148 (by decide +kernel) rfl
theorem wd_156 : (Jvm.Cond.selects "java/lang/IllegalArgumentException" ({ cls := "java/lang/Throwable", name := "fillInStackTrace", desc := "(I)Ljava/lang/Throwable;" } : Jvm.MethodName) ({ cls := "java/lang/Throwable", name := "fillInStackTrace", desc := "(I)Ljava/lang/Throwable;" } : Jvm.MethodName)) ∈ lw_ok := wd_t 156 (by decide +kernel) rfl
theorem wd_157 : (Jvm.Cond.selects "java/lang/IllegalArgumentException" ({ cls := "java/lang/Throwable", name := "fillInStackTrace", desc := "()Ljava/lang/Throwable;" } : Jvm.MethodName) ({ cls := "java/lang/Throwable", name := "fillInStackTrace", desc := "()Ljava/lang/Throwable;" } : Jvm.MethodName)) ∈ lw_ok := wd_t 157 (by decide +kernel) rfl
theorem wd_158 : (Jvm.Cond.lays "java/lang/IllegalArgumentException" "java/lang/Throwable" "cause" "Ljava/lang/Throwable;") ∈ lw_ok := wd_t 158 (by decide +kernel) rfl
theorem wd_159 : (Jvm.Cond.lays "java/lang/Throwable" "java/lang/Throwable" "cause" "Ljava/lang/Throwable;") ∈ lw_ok := wd_t 159 (by decide +kernel) rfl
theorem wd_160 : (Jvm.Cond.lays "java/lang/IllegalArgumentException" "java/lang/Throwable" "stackTrace" "[Ljava/lang/StackTraceElement;") ∈ lw_ok := wd_t 160 (by decide +kernel) rfl
theorem wd_161 : (Jvm.Cond.lays "java/lang/Throwable" "java/lang/Throwable" "stackTrace" "[Ljava/lang/StackTraceElement;") ∈ lw_ok := wd_t 161 (by decide +kernel) rfl
theorem wd_162 : (Jvm.Cond.lays "java/lang/IllegalArgumentException" "java/lang/Throwable" "suppressedExceptions" "Ljava/util/List;") ∈ lw_ok := wd_t 162 (by decide +kernel) rfl
theorem wd_163 : (Jvm.Cond.lays "java/lang/Throwable" "java/lang/Throwable" "suppressedExceptions" "Ljava/util/List;") ∈ lw_ok := wd_t 163 (by decide +kernel) rfl
theorem wd_164 : (Jvm.Cond.lays "java/lang/IllegalArgumentException" "java/lang/Throwable" "detailMessage" "Ljava/lang/String;") ∈ lw_ok := wd_t 164 (by decide +kernel) rfl
theorem wd_165 : (Jvm.Cond.lays "java/lang/Throwable" "java/lang/Throwable" "detailMessage" "Ljava/lang/String;") ∈ lw_ok := wd_t 165 (by decide +kernel) rfl
theorem wd_166 : (Jvm.Cond.lays "java/lang/IllegalArgumentException" "java/lang/Throwable" "backtrace" "Ljava/lang/Object;") ∈ lw_ok := wd_t 166 (by decide +kernel) rfl
theorem wd_167 : (Jvm.Cond.lays "java/lang/Throwable" "java/lang/Throwable" "backtrace" "Ljava/lang/Object;") ∈ lw_ok := wd_t 167 (by decide +kernel) rfl
theorem wd_168 : (Jvm.Cond.fieldLink "java/lang/Throwable" (198 : Nat) "java/lang/Throwable" "backtrace" "Ljava/lang/Object;") ∈ lw_ok := wd_t 168 (by decide +kernel) rfl
theorem wd_169 : (Jvm.Cond.superclass "java/lang/Throwable" "java/lang/Object") ∈ lw_ok := wd_t 169 (by decide +kernel) rfl
theorem wd_170 : (Jvm.Cond.instanceMethod ({ cls := "java/lang/Throwable", name := "<init>", desc := "()V" } : Jvm.MethodName)) ∈ lw_ok := wd_t 170 (by decide +kernel) rfl
theorem wd_171 : (Jvm.Cond.code ({ cls := "java/lang/Throwable", name := "<init>", desc := "()V" } : Jvm.MethodName) prog_10_method_1_code (1 : Nat) (Option.none : Option Jvm.ClassFile.FieldType)) ∈ lw_ok := wd_t 171 (by decide +kernel) rfl
theorem wd_172 : (Jvm.Cond.methodLink "java/lang/Throwable" (1 : Nat) objectInit) ∈ lw_ok := wd_t 172 (by decide +kernel) rfl
theorem wd_173 : (Jvm.Cond.fieldLink "java/lang/Throwable" (13 : Nat) "java/lang/Throwable" "UNASSIGNED_STACK" "[Ljava/lang/StackTraceElement;") ∈ lw_ok := wd_t 173 (by decide +kernel) rfl
theorem wd_175 : (Jvm.Cond.fieldLink "java/lang/Throwable" (20 : Nat) "java/lang/Throwable" "SUPPRESSED_SENTINEL" "Ljava/util/List;") ∈ lw_ok := wd_t 175 (by decide +kernel) rfl
theorem wd_177 : (Jvm.Cond.methodLink "java/lang/Throwable" (27 : Nat) ({ cls := "java/lang/Throwable", name := "fillInStackTrace", desc := "()Ljava/lang/Throwable;" } : Jvm.MethodName)) ∈ lw_ok := wd_t 177 (by decide +kernel) rfl
theorem wd_178 : (Jvm.Cond.instanceMethod ({ cls := "java/lang/Throwable", name := "fillInStackTrace", desc := "()Ljava/lang/Throwable;" } : Jvm.MethodName)) ∈ lw_ok := wd_t 178 (by decide +kernel) rfl
theorem wd_179 : (Jvm.Cond.sameMethod "java/lang/Throwable" "java/lang/Throwable" "fillInStackTrace" "()Ljava/lang/Throwable;") ∈ lw_ok := wd_t 179 (by decide +kernel) rfl
theorem wd_180 : (Jvm.Cond.selects "java/lang/IllegalStateException" ({ cls := "java/lang/Throwable", name := "fillInStackTrace", desc := "()Ljava/lang/Throwable;" } : Jvm.MethodName) ({ cls := "java/lang/Throwable", name := "fillInStackTrace", desc := "()Ljava/lang/Throwable;" } : Jvm.MethodName)) ∈ lw_ok := wd_t 180 (by decide +kernel) rfl
theorem wd_181 : (Jvm.Cond.selects "java/lang/UnsupportedOperationException" ({ cls := "java/lang/Throwable", name := "fillInStackTrace", desc := "()Ljava/lang/Throwable;" } : Jvm.MethodName) ({ cls := "java/lang/Throwable", name := "fillInStackTrace", desc := "()Ljava/lang/Throwable;" } : Jvm.MethodName)) ∈ lw_ok := wd_t 181 (by decide +kernel) rfl
theorem wd_182 : (Jvm.Cond.selects "java/util/NoSuchElementException" ({ cls := "java/lang/Throwable", name := "fillInStackTrace", desc := "()Ljava/lang/Throwable;" } : Jvm.MethodName) ({ cls := "java/lang/Throwable", name := "fillInStackTrace", desc := "()Ljava/lang/Throwable;" } : Jvm.MethodName)) ∈ lw_ok := wd_t 182 (by decide +kernel) rfl
theorem wd_183 : (Jvm.Cond.codeSync ({ cls := "java/lang/Throwable", name := "fillInStackTrace", desc := "()Ljava/lang/Throwable;" } : Jvm.MethodName) prog_10_method_18_code (1 : Nat) (Option.some (Jvm.ClassFile.FieldType.object "java/lang/Throwable"))) ∈ lw_ok := wd_t 183 (by decide +kernel) rfl
theorem wd_184 : (Jvm.Cond.methodLink "java/lang/Throwable" (202 : Nat) ({ cls := "java/lang/Throwable", name := "fillInStackTrace", desc := "(I)Ljava/lang/Throwable;" } : Jvm.MethodName)) ∈ lw_ok := wd_t 184 (by decide +kernel) rfl
theorem wd_186 : (Jvm.Cond.instanceMethod ({ cls := "java/lang/Throwable", name := "fillInStackTrace", desc := "(I)Ljava/lang/Throwable;" } : Jvm.MethodName)) ∈ lw_ok := wd_t 186 (by decide +kernel) rfl
theorem wd_187 : (Jvm.Cond.instantiable "java/lang/Throwable" (6 : Nat)) ∈ lw_ok := wd_t 187 (by decide +kernel) rfl
theorem wd_188 : (Jvm.Cond.native ({ cls := "java/lang/Throwable", name := "fillInStackTrace", desc := "(I)Ljava/lang/Throwable;" } : Jvm.MethodName)) ∈ lw_ok := wd_t 188 (by decide +kernel) rfl
theorem wd_189 : (Jvm.Cond.methodLink R_B (49 : Nat) ({ cls := "java/lang/IllegalArgumentException", name := "<init>", desc := "()V" } : Jvm.MethodName)) ∈ lw_ok := wd_t 189 (by decide +kernel) rfl
theorem wd_190 : (Jvm.Cond.instanceMethod ({ cls := "java/lang/IllegalArgumentException", name := "<init>", desc := "()V" } : Jvm.MethodName)) ∈ lw_ok := wd_t 190 (by decide +kernel) rfl
theorem wd_191 : (Jvm.Cond.code ({ cls := "java/lang/IllegalArgumentException", name := "<init>", desc := "()V" } : Jvm.MethodName) prog_7_method_1_code (1 : Nat) (Option.none : Option Jvm.ClassFile.FieldType)) ∈ lw_ok := wd_t 191 (by decide +kernel) rfl
theorem wd_192 : (Jvm.Cond.methodLink "java/lang/IllegalArgumentException" (1 : Nat) ({ cls := "java/lang/RuntimeException", name := "<init>", desc := "()V" } : Jvm.MethodName)) ∈ lw_ok := wd_t 192 (by decide +kernel) rfl
theorem wd_193 : (Jvm.Cond.instanceMethod ({ cls := "java/lang/RuntimeException", name := "<init>", desc := "()V" } : Jvm.MethodName)) ∈ lw_ok := wd_t 193 (by decide +kernel) rfl
theorem wd_194 : (Jvm.Cond.code ({ cls := "java/lang/RuntimeException", name := "<init>", desc := "()V" } : Jvm.MethodName) prog_9_method_1_code (1 : Nat) (Option.none : Option Jvm.ClassFile.FieldType)) ∈ lw_ok := wd_t 194 (by decide +kernel) rfl
theorem wd_195 : (Jvm.Cond.methodLink "java/lang/RuntimeException" (1 : Nat) ({ cls := "java/lang/Exception", name := "<init>", desc := "()V" } : Jvm.MethodName)) ∈ lw_ok := wd_t 195 (by decide +kernel) rfl
theorem wd_196 : (Jvm.Cond.instanceMethod ({ cls := "java/lang/Exception", name := "<init>", desc := "()V" } : Jvm.MethodName)) ∈ lw_ok := wd_t 196 (by decide +kernel) rfl
theorem wd_197 : (Jvm.Cond.code ({ cls := "java/lang/Exception", name := "<init>", desc := "()V" } : Jvm.MethodName) prog_6_method_1_code (1 : Nat) (Option.none : Option Jvm.ClassFile.FieldType)) ∈ lw_ok := wd_t 197 (by decide +kernel) rfl
theorem wd_198 : (Jvm.Cond.methodLink "java/lang/Exception" (1 : Nat) ({ cls := "java/lang/Throwable", name := "<init>", desc := "()V" } : Jvm.MethodName)) ∈ lw_ok := wd_t 198 (by decide +kernel) rfl
theorem wd_199 : (Jvm.Cond.fieldLink "java/lang/Throwable" (198 : Nat) "java/lang/Throwable" "backtrace" "Ljava/lang/Object;") ∈ lw_ok := wd_t 199 (by decide +kernel) rfl
theorem wd_200 : (Jvm.Cond.fieldLink "java/lang/Throwable" (7 : Nat) "java/lang/Throwable" "cause" "Ljava/lang/Throwable;") ∈ lw_ok := wd_t 200 (by decide +kernel) rfl
theorem wd_201 : (Jvm.Cond.fieldLink "java/lang/Throwable" (17 : Nat) "java/lang/Throwable" "stackTrace" "[Ljava/lang/StackTraceElement;") ∈ lw_ok := wd_t 201 (by decide +kernel) rfl
theorem wd_202 : (Jvm.Cond.fieldLink "java/lang/Throwable" (24 : Nat) "java/lang/Throwable" "suppressedExceptions" "Ljava/util/List;") ∈ lw_ok := wd_t 202 (by decide +kernel) rfl
theorem wd_203 : (Jvm.Cond.soleField "java/lang/Throwable" "backtrace") ∈ lw_ok := wd_t 203 (by decide +kernel) rfl
theorem wd_204 : (Jvm.Cond.soleField "java/lang/Throwable" "detailMessage") ∈ lw_ok := wd_t 204 (by decide +kernel) rfl
theorem wd_205 : (Jvm.Cond.soleField "java/lang/Throwable" "cause") ∈ lw_ok := wd_t 205 (by decide +kernel) rfl
theorem wd_206 : (Jvm.Cond.soleField "java/lang/Throwable" "stackTrace") ∈ lw_ok := wd_t 206 (by decide +kernel) rfl
theorem wd_207 : (Jvm.Cond.lays "java/lang/IllegalArgumentException" "java/lang/Throwable" "depth" "I") ∈ lw_ok := wd_t 207 (by decide +kernel) rfl
theorem wd_208 : (Jvm.Cond.soleField "java/lang/Throwable" "depth") ∈ lw_ok := wd_t 208 (by decide +kernel) rfl
theorem wd_209 : (Jvm.Cond.soleField "java/lang/Throwable" "suppressedExceptions") ∈ lw_ok := wd_t 209 (by decide +kernel) rfl
theorem wd_210 : (Jvm.Cond.superclass "java/lang/IllegalArgumentException" "java/lang/RuntimeException") ∈ lw_ok := wd_t 210 (by decide +kernel) rfl
theorem wd_211 : (Jvm.Cond.classLink R_B (57 : Nat) "java/lang/IllegalStateException") ∈ lw_ok := wd_t 211 (by decide +kernel) rfl
theorem wd_212 : (Jvm.Cond.instantiable "java/lang/IllegalStateException" (6 : Nat)) ∈ lw_ok := wd_t 212 (by decide +kernel) rfl
theorem wd_214 : (Jvm.Cond.selects "java/lang/IllegalStateException" ({ cls := "java/lang/Throwable", name := "fillInStackTrace", desc := "(I)Ljava/lang/Throwable;" } : Jvm.MethodName) ({ cls := "java/lang/Throwable", name := "fillInStackTrace", desc := "(I)Ljava/lang/Throwable;" } : Jvm.MethodName)) ∈ lw_ok := wd_t 214 (by decide +kernel) rfl
theorem wd_215 : (Jvm.Cond.lays "java/lang/IllegalStateException" "java/lang/Throwable" "cause" "Ljava/lang/Throwable;") ∈ lw_ok := wd_t 215 (by decide +kernel) rfl
theorem wd_216 : (Jvm.Cond.lays "java/lang/IllegalStateException" "java/lang/Throwable" "stackTrace" "[Ljava/lang/StackTraceElement;") ∈ lw_ok := wd_t 216 (by decide +kernel) rfl
theorem wd_217 : (Jvm.Cond.lays "java/lang/IllegalStateException" "java/lang/Throwable" "suppressedExceptions" "Ljava/util/List;") ∈ lw_ok := wd_t 217 (by decide +kernel) rfl
theorem wd_218 : (Jvm.Cond.lays "java/lang/IllegalStateException" "java/lang/Throwable" "detailMessage" "Ljava/lang/String;") ∈ lw_ok := wd_t 218 (by decide +kernel) rfl
theorem wd_219 : (Jvm.Cond.lays "java/lang/IllegalStateException" "java/lang/Throwable" "backtrace" "Ljava/lang/Object;") ∈ lw_ok := wd_t 219 (by decide +kernel) rfl
theorem wd_220 : (Jvm.Cond.methodLink R_B (59 : Nat) ({ cls := "java/lang/IllegalStateException", name := "<init>", desc := "()V" } : Jvm.MethodName)) ∈ lw_ok := wd_t 220 (by decide +kernel) rfl
theorem wd_221 : (Jvm.Cond.instanceMethod ({ cls := "java/lang/IllegalStateException", name := "<init>", desc := "()V" } : Jvm.MethodName)) ∈ lw_ok := wd_t 221 (by decide +kernel) rfl
theorem wd_222 : (Jvm.Cond.code ({ cls := "java/lang/IllegalStateException", name := "<init>", desc := "()V" } : Jvm.MethodName) prog_8_method_1_code (1 : Nat) (Option.none : Option Jvm.ClassFile.FieldType)) ∈ lw_ok := wd_t 222 (by decide +kernel) rfl
theorem wd_223 : (Jvm.Cond.methodLink "java/lang/IllegalStateException" (1 : Nat) ({ cls := "java/lang/RuntimeException", name := "<init>", desc := "()V" } : Jvm.MethodName)) ∈ lw_ok := wd_t 223 (by decide +kernel) rfl
theorem wd_224 : (Jvm.Cond.lays "java/lang/IllegalStateException" "java/lang/Throwable" "depth" "I") ∈ lw_ok := wd_t 224 (by decide +kernel) rfl
theorem wd_225 : (Jvm.Cond.superclass "java/lang/IllegalStateException" "java/lang/RuntimeException") ∈ lw_ok := wd_t 225 (by decide +kernel) rfl
theorem wd_226 : (Jvm.Cond.methodLink R_L (76 : Nat) y_L_term) ∈ lw_ok := wd_t 226 (by decide +kernel) rfl
theorem wd_227 : (Jvm.Cond.static y_L_term) ∈ lw_ok := wd_t 227 (by decide +kernel) rfl
theorem wd_228 : (Jvm.Cond.codeWith y_L_term method_4_code (7 : Nat) (Option.some Jvm.ClassFile.FieldType.int) [((0 : Nat), (14 : Nat), (17 : Nat), (13 : Nat)), ((0 : Nat), (14 : Nat), (21 : Nat), (15 : Nat))]) ∈ lw_ok := wd_t 228 (by decide +kernel) rfl
theorem wd_229 : (Jvm.Cond.methodLink R_L (17 : Nat) y_B_term) ∈ lw_ok := wd_t 229 (by decide +kernel) rfl
theorem wd_230 : (Jvm.Cond.instanceMethod y_B_term) ∈ lw_ok := wd_t 230 (by decide +kernel) rfl
theorem wd_231 : (Jvm.Cond.selects R_B y_B_term y_B_term) ∈ lw_ok := wd_t 231 (by decide +kernel) rfl
theorem wd_232 : (Jvm.Cond.code y_B_term prog_1_method_3_code (6 : Nat) (Option.some Jvm.ClassFile.FieldType.int)) ∈ lw_ok := wd_t 232 (by decide +kernel) rfl
theorem wd_233 : (Jvm.Cond.methodLink R_B (60 : Nat) y_B_widthToBuild) ∈ lw_ok := wd_t 233 (by decide +kernel) rfl
theorem wd_235 : (Jvm.Cond.instanceMethod y_B_widthToBuild) ∈ lw_ok := wd_t 235 (by decide +kernel) rfl
theorem wd_236 : (Jvm.Cond.code y_B_widthToBuild prog_1_method_28_code (5 : Nat) (Option.some Jvm.ClassFile.FieldType.int)) ∈ lw_ok := wd_t 236 (by decide +kernel) rfl
theorem wd_237 : (Jvm.Cond.methodLink R_B (117 : Nat) y_B_hasVariable) ∈ lw_ok := wd_t 237 (by decide +kernel) rfl
theorem wd_239 : (Jvm.Cond.instanceMethod y_B_hasVariable) ∈ lw_ok := wd_t 239 (by decide +kernel) rfl
theorem wd_240 : (Jvm.Cond.code y_B_hasVariable prog_1_method_20_code (2 : Nat) (Option.some Jvm.ClassFile.FieldType.boolean)) ∈ lw_ok := wd_t 240 (by decide +kernel) rfl
theorem wd_241 : (Jvm.Cond.methodLink R_B (162 : Nat) y_B_commonWidth) ∈ lw_ok := wd_t 241 (by decide +kernel) rfl
theorem wd_243 : (Jvm.Cond.instanceMethod y_B_commonWidth) ∈ lw_ok := wd_t 243 (by decide +kernel) rfl
theorem wd_244 : (Jvm.Cond.code y_B_commonWidth prog_1_method_30_code (3 : Nat) (Option.some Jvm.ClassFile.FieldType.int)) ∈ lw_ok := wd_t 244 (by decide +kernel) rfl
theorem wd_245 : (Jvm.Cond.methodLink R_B (166 : Nat) y_B_widthOrNone) ∈ lw_ok := wd_t 245 (by decide +kernel) rfl
theorem wd_247 : (Jvm.Cond.instanceMethod y_B_widthOrNone) ∈ lw_ok := wd_t 247 (by decide +kernel) rfl
theorem wd_248 : (Jvm.Cond.code y_B_widthOrNone prog_1_method_29_code (2 : Nat) (Option.some Jvm.ClassFile.FieldType.int)) ∈ lw_ok := wd_t 248 (by decide +kernel) rfl
theorem wd_249 : (Jvm.Cond.methodLink R_B (127 : Nat) y_B_hasTerm) ∈ lw_ok := wd_t 249 (by decide +kernel) rfl
theorem wd_251 : (Jvm.Cond.instanceMethod y_B_hasTerm) ∈ lw_ok := wd_t 251 (by decide +kernel) rfl
theorem wd_252 : (Jvm.Cond.code y_B_hasTerm prog_1_method_21_code (2 : Nat) (Option.some Jvm.ClassFile.FieldType.boolean)) ∈ lw_ok := wd_t 252 (by decide +kernel) rfl
theorem wd_253 : (Jvm.Cond.methodLink R_B (91 : Nat) y_B_hasFormula) ∈ lw_ok := wd_t 253 (by decide +kernel) rfl
theorem wd_255 : (Jvm.Cond.instanceMethod y_B_hasFormula) ∈ lw_ok := wd_t 255 (by decide +kernel) rfl
theorem wd_256 : (Jvm.Cond.code y_B_hasFormula prog_1_method_22_code (2 : Nat) (Option.some Jvm.ClassFile.FieldType.boolean)) ∈ lw_ok := wd_t 256 (by decide +kernel) rfl
theorem wd_257 : (Jvm.Cond.methodLink R_B (169 : Nat) y_B_joinedWidth) ∈ lw_ok := wd_t 257 (by decide +kernel) rfl
theorem wd_259 : (Jvm.Cond.instanceMethod y_B_joinedWidth) ∈ lw_ok := wd_t 259 (by decide +kernel) rfl
theorem wd_260 : (Jvm.Cond.code y_B_joinedWidth prog_1_method_31_code (4 : Nat) (Option.some Jvm.ClassFile.FieldType.int)) ∈ lw_ok := wd_t 260 (by decide +kernel) rfl
theorem wd_261 : (Jvm.Cond.methodLink R_B (67 : Nat) y_B_buildNumeric) ∈ lw_ok := wd_t 261 (by decide +kernel) rfl
theorem wd_263 : (Jvm.Cond.instanceMethod y_B_buildNumeric) ∈ lw_ok := wd_t 263 (by decide +kernel) rfl
theorem wd_264 : (Jvm.Cond.code y_B_buildNumeric prog_1_method_32_code (6 : Nat) (Option.none : Option Jvm.ClassFile.FieldType)) ∈ lw_ok := wd_t 264 (by decide +kernel) rfl
theorem wd_265 : (Jvm.Cond.methodLink R_B (130 : Nat) y_B_termRow) ∈ lw_ok := wd_t 265 (by decide +kernel) rfl
theorem wd_266 : (Jvm.Cond.static y_B_termRow) ∈ lw_ok := wd_t 266 (by decide +kernel) rfl
theorem wd_267 : (Jvm.Cond.code y_B_termRow prog_1_method_25_code (1 : Nat) (Option.some Jvm.ClassFile.FieldType.int)) ∈ lw_ok := wd_t 267 (by decide +kernel) rfl
theorem wd_268 : (Jvm.Cond.methodLink R_B (172 : Nat) y_B_buildNumber) ∈ lw_ok := wd_t 268 (by decide +kernel) rfl
theorem wd_270 : (Jvm.Cond.instanceMethod y_B_buildNumber) ∈ lw_ok := wd_t 270 (by decide +kernel) rfl
theorem wd_271 : (Jvm.Cond.code y_B_buildNumber prog_1_method_33_code (5 : Nat) (Option.none : Option Jvm.ClassFile.FieldType)) ∈ lw_ok := wd_t 271 (by decide +kernel) rfl
theorem wd_272 : (Jvm.Cond.methodLink R_B (175 : Nat) y_B_buildVariable) ∈ lw_ok := wd_t 272 (by decide +kernel) rfl
theorem wd_274 : (Jvm.Cond.instanceMethod y_B_buildVariable) ∈ lw_ok := wd_t 274 (by decide +kernel) rfl
theorem wd_275 : (Jvm.Cond.code y_B_buildVariable prog_1_method_34_code (4 : Nat) (Option.none : Option Jvm.ClassFile.FieldType)) ∈ lw_ok := wd_t 275 (by decide +kernel) rfl
theorem wd_276 : (Jvm.Cond.methodLink R_B (143 : Nat) y_S_fillByPlace) ∈ lw_ok := wd_t 276 (by decide +kernel) rfl
theorem wd_277 : (Jvm.Cond.instanceMethod y_S_fillByPlace) ∈ lw_ok := wd_t 277 (by decide +kernel) rfl
theorem wd_278 : (Jvm.Cond.selects R_S y_S_fillByPlace y_S_fillByPlace) ∈ lw_ok := wd_t 278 (by decide +kernel) rfl
theorem wd_279 : (Jvm.Cond.code y_S_fillByPlace prog_3_method_3_code (4 : Nat) (Option.none : Option Jvm.ClassFile.FieldType)) ∈ lw_ok := wd_t 279 (by decide +kernel) rfl
theorem wd_280 : (Jvm.Cond.methodLink R_S (17 : Nat) y_S_wordByPlace) ∈ lw_ok := wd_t 280 (by decide +kernel) rfl
theorem wd_281 : (Jvm.Cond.static y_S_wordByPlace) ∈ lw_ok := wd_t 281 (by decide +kernel) rfl
theorem wd_282 : (Jvm.Cond.code y_S_wordByPlace prog_3_method_4_code (2 : Nat) (Option.some Jvm.ClassFile.FieldType.long)) ∈ lw_ok := wd_t 282 (by decide +kernel) rfl
theorem wd_283 : (Jvm.Cond.fieldLink R_S (21 : Nat) "BitSolver$Sets" "BY_PLACE" "[J") ∈ lw_ok := wd_t 283 (by decide +kernel) rfl
theorem wd_285 : (Jvm.Cond.methodLink R_B (178 : Nat) y_C_sum) ∈ lw_ok := wd_t 285 (by decide +kernel) rfl
theorem wd_286 : (Jvm.Cond.instanceMethod y_C_sum) ∈ lw_ok := wd_t 286 (by decide +kernel) rfl
theorem wd_287 : (Jvm.Cond.selects R_C y_C_sum y_C_sum) ∈ lw_ok := wd_t 287 (by decide +kernel) rfl
theorem wd_288 : (Jvm.Cond.code y_C_sum prog_2_method_2_code (6 : Nat) (Option.none : Option Jvm.ClassFile.FieldType)) ∈ lw_ok := wd_t 288 (by decide +kernel) rfl
theorem wd_289 : (Jvm.Cond.methodLink R_C (20 : Nat) y_S_fill) ∈ lw_ok := wd_t 289 (by decide +kernel) rfl
theorem wd_290 : (Jvm.Cond.methodLink R_C (24 : Nat) y_C_addBit) ∈ lw_ok := wd_t 290 (by decide +kernel) rfl
theorem wd_292 : (Jvm.Cond.instanceMethod y_C_addBit) ∈ lw_ok := wd_t 292 (by decide +kernel) rfl
theorem wd_293 : (Jvm.Cond.code y_C_addBit prog_2_method_5_code (4 : Nat) (Option.none : Option Jvm.ClassFile.FieldType)) ∈ lw_ok := wd_t 293 (by decide +kernel) rfl
theorem wd_294 : (Jvm.Cond.methodLink R_C (35 : Nat) y_S_exclusive) ∈ lw_ok := wd_t 294 (by decide +kernel) rfl
theorem wd_295 : (Jvm.Cond.instanceMethod y_S_exclusive) ∈ lw_ok := wd_t 295 (by decide +kernel) rfl
theorem wd_296 : (Jvm.Cond.selects R_S y_S_exclusive y_S_exclusive) ∈ lw_ok := wd_t 296 (by decide +kernel) rfl
theorem wd_297 : (Jvm.Cond.code y_S_exclusive prog_3_method_9_code (6 : Nat) (Option.none : Option Jvm.ClassFile.FieldType)) ∈ lw_ok := wd_t 297 (by decide +kernel) rfl
theorem wd_298 : (Jvm.Cond.methodLink R_C (31 : Nat) y_S_and) ∈ lw_ok := wd_t 298 (by decide +kernel) rfl
theorem wd_299 : (Jvm.Cond.methodLink R_C (38 : Nat) y_S_or) ∈ lw_ok := wd_t 299 (by decide +kernel) rfl
theorem wd_300 : (Jvm.Cond.instanceMethod y_S_or) ∈ lw_ok := wd_t 300 (by decide +kernel) rfl
theorem wd_301 : (Jvm.Cond.selects R_S y_S_or y_S_or) ∈ lw_ok := wd_t 301 (by decide +kernel) rfl
theorem wd_302 : (Jvm.Cond.code y_S_or prog_3_method_8_code (6 : Nat) (Option.none : Option Jvm.ClassFile.FieldType)) ∈ lw_ok := wd_t 302 (by decide +kernel) rfl
theorem wd_303 : (Jvm.Cond.methodLink R_B (181 : Nat) y_C_difference) ∈ lw_ok := wd_t 303 (by decide +kernel) rfl
theorem wd_304 : (Jvm.Cond.instanceMethod y_C_difference) ∈ lw_ok := wd_t 304 (by decide +kernel) rfl
theorem wd_305 : (Jvm.Cond.selects R_C y_C_difference y_C_difference) ∈ lw_ok := wd_t 305 (by decide +kernel) rfl
theorem wd_306 : (Jvm.Cond.code y_C_difference prog_2_method_3_code (6 : Nat) (Option.none : Option Jvm.ClassFile.FieldType)) ∈ lw_ok := wd_t 306 (by decide +kernel) rfl
theorem wd_307 : (Jvm.Cond.methodLink R_C (28 : Nat) y_S_turn) ∈ lw_ok := wd_t 307 (by decide +kernel) rfl
theorem wd_308 : (Jvm.Cond.instanceMethod y_S_turn) ∈ lw_ok := wd_t 308 (by decide +kernel) rfl
theorem wd_309 : (Jvm.Cond.selects R_S y_S_turn y_S_turn) ∈ lw_ok := wd_t 309 (by decide +kernel) rfl
theorem wd_310 : (Jvm.Cond.code y_S_turn prog_3_method_6_code (5 : Nat) (Option.none : Option Jvm.ClassFile.FieldType)) ∈ lw_ok := wd_t 310 (by decide +kernel) rfl
theorem wd_311 : (Jvm.Cond.methodLink R_B (184 : Nat) y_C_product) ∈ lw_ok := wd_t 311 (by decide +kernel) rfl
theorem wd_312 : (Jvm.Cond.instanceMethod y_C_product) ∈ lw_ok := wd_t 312 (by decide +kernel) rfl
theorem wd_313 : (Jvm.Cond.selects R_C y_C_product y_C_product) ∈ lw_ok := wd_t 313 (by decide +kernel) rfl
theorem wd_314 : (Jvm.Cond.code y_C_product prog_2_method_4_code (7 : Nat) (Option.none : Option Jvm.ClassFile.FieldType)) ∈ lw_ok := wd_t 314 (by decide +kernel) rfl
theorem wd_315 : (Jvm.Cond.methodLink R_B (71 : Nat) y_B_buildBitwise) ∈ lw_ok := wd_t 315 (by decide +kernel) rfl
theorem wd_317 : (Jvm.Cond.instanceMethod y_B_buildBitwise) ∈ lw_ok := wd_t 317 (by decide +kernel) rfl
theorem wd_318 : (Jvm.Cond.code y_B_buildBitwise prog_1_method_35_code (6 : Nat) (Option.none : Option Jvm.ClassFile.FieldType)) ∈ lw_ok := wd_t 318 (by decide +kernel) rfl
theorem wd_319 : (Jvm.Cond.methodLink R_B (187 : Nat) y_S_or) ∈ lw_ok := wd_t 319 (by decide +kernel) rfl
theorem wd_320 : (Jvm.Cond.methodLink R_B (190 : Nat) y_S_exclusive) ∈ lw_ok := wd_t 320 (by decide +kernel) rfl
theorem wd_321 : (Jvm.Cond.methodLink R_B (193 : Nat) y_S_turn) ∈ lw_ok := wd_t 321 (by decide +kernel) rfl
theorem wd_322 : (Jvm.Cond.methodLink R_B (74 : Nat) y_B_buildArranged) ∈ lw_ok := wd_t 322 (by decide +kernel) rfl
theorem wd_324 : (Jvm.Cond.instanceMethod y_B_buildArranged) ∈ lw_ok := wd_t 324 (by decide +kernel) rfl
theorem wd_325 : (Jvm.Cond.code y_B_buildArranged prog_1_method_36_code (7 : Nat) (Option.none : Option Jvm.ClassFile.FieldType)) ∈ lw_ok := wd_t 325 (by decide +kernel) rfl
theorem wd_326 : (Jvm.Cond.methodLink R_B (196 : Nat) y_C_moveUp) ∈ lw_ok := wd_t 326 (by decide +kernel) rfl
theorem wd_327 : (Jvm.Cond.instanceMethod y_C_moveUp) ∈ lw_ok := wd_t 327 (by decide +kernel) rfl
theorem wd_328 : (Jvm.Cond.selects R_C y_C_moveUp y_C_moveUp) ∈ lw_ok := wd_t 328 (by decide +kernel) rfl
theorem wd_329 : (Jvm.Cond.code y_C_moveUp prog_2_method_6_code (6 : Nat) (Option.none : Option Jvm.ClassFile.FieldType)) ∈ lw_ok := wd_t 329 (by decide +kernel) rfl
theorem wd_330 : (Jvm.Cond.methodLink R_C (41 : Nat) y_S_copy) ∈ lw_ok := wd_t 330 (by decide +kernel) rfl
theorem wd_331 : (Jvm.Cond.methodLink R_B (199 : Nat) y_C_moveDown) ∈ lw_ok := wd_t 331 (by decide +kernel) rfl
theorem wd_332 : (Jvm.Cond.instanceMethod y_C_moveDown) ∈ lw_ok := wd_t 332 (by decide +kernel) rfl
theorem wd_333 : (Jvm.Cond.selects R_C y_C_moveDown y_C_moveDown) ∈ lw_ok := wd_t 333 (by decide +kernel) rfl
theorem wd_334 : (Jvm.Cond.code y_C_moveDown prog_2_method_7_code (7 : Nat) (Option.none : Option Jvm.ClassFile.FieldType)) ∈ lw_ok := wd_t 334 (by decide +kernel) rfl
theorem wd_335 : (Jvm.Cond.methodLink R_B (203 : Nat) y_C_choice) ∈ lw_ok := wd_t 335 (by decide +kernel) rfl
theorem wd_336 : (Jvm.Cond.instanceMethod y_C_choice) ∈ lw_ok := wd_t 336 (by decide +kernel) rfl
theorem wd_337 : (Jvm.Cond.selects R_C y_C_choice y_C_choice) ∈ lw_ok := wd_t 337 (by decide +kernel) rfl
theorem wd_338 : (Jvm.Cond.code y_C_choice prog_2_method_8_code (7 : Nat) (Option.none : Option Jvm.ClassFile.FieldType)) ∈ lw_ok := wd_t 338 (by decide +kernel) rfl
theorem wd_339 : (Jvm.Cond.methodLink R_C (44 : Nat) y_S_choose) ∈ lw_ok := wd_t 339 (by decide +kernel) rfl
theorem wd_340 : (Jvm.Cond.instanceMethod y_S_choose) ∈ lw_ok := wd_t 340 (by decide +kernel) rfl
theorem wd_341 : (Jvm.Cond.selects R_S y_S_choose y_S_choose) ∈ lw_ok := wd_t 341 (by decide +kernel) rfl
theorem wd_342 : (Jvm.Cond.code y_S_choose prog_3_method_10_code (8 : Nat) (Option.none : Option Jvm.ClassFile.FieldType)) ∈ lw_ok := wd_t 342 (by decide +kernel) rfl
theorem wd_343 : (Jvm.Cond.methodLink R_L (80 : Nat) y_L_formula) ∈ lw_ok := wd_t 343 (by decide +kernel) rfl
theorem wd_344 : (Jvm.Cond.static y_L_formula) ∈ lw_ok := wd_t 344 (by decide +kernel) rfl
theorem wd_345 : (Jvm.Cond.codeWith y_L_formula method_5_code (6 : Nat) (Option.some Jvm.ClassFile.FieldType.int) [((0 : Nat), (12 : Nat), (15 : Nat), (13 : Nat)), ((0 : Nat), (12 : Nat), (19 : Nat), (15 : Nat))]) ∈ lw_ok := wd_t 345 (by decide +kernel) rfl
theorem wd_346 : (Jvm.Cond.methodLink R_L (21 : Nat) y_B_formula) ∈ lw_ok := wd_t 346 (by decide +kernel) rfl
theorem wd_347 : (Jvm.Cond.instanceMethod y_B_formula) ∈ lw_ok := wd_t 347 (by decide +kernel) rfl
theorem wd_348 : (Jvm.Cond.selects R_B y_B_formula y_B_formula) ∈ lw_ok := wd_t 348 (by decide +kernel) rfl
theorem wd_349 : (Jvm.Cond.code y_B_formula prog_1_method_4_code (4 : Nat) (Option.some Jvm.ClassFile.FieldType.int)) ∈ lw_ok := wd_t 349 (by decide +kernel) rfl
theorem wd_350 : (Jvm.Cond.methodLink R_B (78 : Nat) y_B_canBuildFormula) ∈ lw_ok := wd_t 350 (by decide +kernel) rfl
theorem wd_352 : (Jvm.Cond.instanceMethod y_B_canBuildFormula) ∈ lw_ok := wd_t 352 (by decide +kernel) rfl
theorem wd_353 : (Jvm.Cond.code y_B_canBuildFormula prog_1_method_37_code (4 : Nat) (Option.some Jvm.ClassFile.FieldType.boolean)) ∈ lw_ok := wd_t 353 (by decide +kernel) rfl
theorem wd_354 : (Jvm.Cond.methodLink R_B (85 : Nat) y_B_buildRelation) ∈ lw_ok := wd_t 354 (by decide +kernel) rfl
theorem wd_356 : (Jvm.Cond.instanceMethod y_B_buildRelation) ∈ lw_ok := wd_t 356 (by decide +kernel) rfl
theorem wd_357 : (Jvm.Cond.code y_B_buildRelation prog_1_method_38_code (6 : Nat) (Option.none : Option Jvm.ClassFile.FieldType)) ∈ lw_ok := wd_t 357 (by decide +kernel) rfl
theorem wd_358 : (Jvm.Cond.methodLink R_B (207 : Nat) y_C_equal) ∈ lw_ok := wd_t 358 (by decide +kernel) rfl
theorem wd_359 : (Jvm.Cond.instanceMethod y_C_equal) ∈ lw_ok := wd_t 359 (by decide +kernel) rfl
theorem wd_360 : (Jvm.Cond.selects R_C y_C_equal y_C_equal) ∈ lw_ok := wd_t 360 (by decide +kernel) rfl
theorem wd_361 : (Jvm.Cond.code y_C_equal prog_2_method_9_code (6 : Nat) (Option.none : Option Jvm.ClassFile.FieldType)) ∈ lw_ok := wd_t 361 (by decide +kernel) rfl
theorem wd_362 : (Jvm.Cond.methodLink R_C (47 : Nat) y_S_remove) ∈ lw_ok := wd_t 362 (by decide +kernel) rfl
theorem wd_363 : (Jvm.Cond.instanceMethod y_S_remove) ∈ lw_ok := wd_t 363 (by decide +kernel) rfl
theorem wd_364 : (Jvm.Cond.selects R_S y_S_remove y_S_remove) ∈ lw_ok := wd_t 364 (by decide +kernel) rfl
theorem wd_365 : (Jvm.Cond.code y_S_remove prog_3_method_11_code (4 : Nat) (Option.none : Option Jvm.ClassFile.FieldType)) ∈ lw_ok := wd_t 365 (by decide +kernel) rfl
theorem wd_366 : (Jvm.Cond.methodLink R_B (210 : Nat) y_C_less) ∈ lw_ok := wd_t 366 (by decide +kernel) rfl
theorem wd_367 : (Jvm.Cond.instanceMethod y_C_less) ∈ lw_ok := wd_t 367 (by decide +kernel) rfl
theorem wd_368 : (Jvm.Cond.selects R_C y_C_less y_C_less) ∈ lw_ok := wd_t 368 (by decide +kernel) rfl
theorem wd_369 : (Jvm.Cond.code y_C_less prog_2_method_10_code (8 : Nat) (Option.none : Option Jvm.ClassFile.FieldType)) ∈ lw_ok := wd_t 369 (by decide +kernel) rfl
theorem wd_370 : (Jvm.Cond.methodLink R_B (213 : Nat) y_C_atMost) ∈ lw_ok := wd_t 370 (by decide +kernel) rfl
theorem wd_371 : (Jvm.Cond.instanceMethod y_C_atMost) ∈ lw_ok := wd_t 371 (by decide +kernel) rfl
theorem wd_372 : (Jvm.Cond.selects R_C y_C_atMost y_C_atMost) ∈ lw_ok := wd_t 372 (by decide +kernel) rfl
theorem wd_373 : (Jvm.Cond.code y_C_atMost prog_2_method_11_code (6 : Nat) (Option.none : Option Jvm.ClassFile.FieldType)) ∈ lw_ok := wd_t 373 (by decide +kernel) rfl
theorem wd_374 : (Jvm.Cond.methodLink R_C (51 : Nat) y_C_less) ∈ lw_ok := wd_t 374 (by decide +kernel) rfl
theorem wd_375 : (Jvm.Cond.methodLink R_B (88 : Nat) y_B_buildConnective) ∈ lw_ok := wd_t 375 (by decide +kernel) rfl
theorem wd_377 : (Jvm.Cond.instanceMethod y_B_buildConnective) ∈ lw_ok := wd_t 377 (by decide +kernel) rfl
theorem wd_378 : (Jvm.Cond.code y_B_buildConnective prog_1_method_39_code (5 : Nat) (Option.none : Option Jvm.ClassFile.FieldType)) ∈ lw_ok := wd_t 378 (by decide +kernel) rfl
theorem wd_379 : (Jvm.Cond.methodLink R_L (84 : Nat) y_L_assertion) ∈ lw_ok := wd_t 379 (by decide +kernel) rfl
theorem wd_380 : (Jvm.Cond.static y_L_assertion) ∈ lw_ok := wd_t 380 (by decide +kernel) rfl
theorem wd_381 : (Jvm.Cond.codeWith y_L_assertion method_6_code (4 : Nat) (Option.some Jvm.ClassFile.FieldType.int) [((0 : Nat), (9 : Nat), (12 : Nat), (28 : Nat)), ((0 : Nat), (9 : Nat), (15 : Nat), (15 : Nat))]) ∈ lw_ok := wd_t 381 (by decide +kernel) rfl
theorem wd_382 : (Jvm.Cond.classLink R_L (28 : Nat) "java/util/NoSuchElementException") ∈ lw_ok := wd_t 382 (by decide +kernel) rfl
theorem wd_383 : (Jvm.Cond.methodLink R_L (25 : Nat) y_B_assertion) ∈ lw_ok := wd_t 383 (by decide +kernel) rfl
theorem wd_384 : (Jvm.Cond.instanceMethod y_B_assertion) ∈ lw_ok := wd_t 384 (by decide +kernel) rfl
theorem wd_385 : (Jvm.Cond.selects R_B y_B_assertion y_B_assertion) ∈ lw_ok := wd_t 385 (by decide +kernel) rfl
theorem wd_386 : (Jvm.Cond.code y_B_assertion prog_1_method_5_code (2 : Nat) (Option.some Jvm.ClassFile.FieldType.int)) ∈ lw_ok := wd_t 386 (by decide +kernel) rfl
theorem wd_387 : (Jvm.Cond.classLink R_B (94 : Nat) "java/util/NoSuchElementException") ∈ lw_ok := wd_t 387 (by decide +kernel) rfl
theorem wd_388 : (Jvm.Cond.instantiable "java/util/NoSuchElementException" (6 : Nat)) ∈ lw_ok := wd_t 388 (by decide +kernel) rfl
theorem wd_390 : (Jvm.Cond.selects "java/util/NoSuchElementException" ({ cls := "java/lang/Throwable", name := "fillInStackTrace", desc := "(I)Ljava/lang/Throwable;" } : Jvm.MethodName) ({ cls := "java/lang/Throwable", name := "fillInStackTrace", desc := "(I)Ljava/lang/Throwable;" } : Jvm.MethodName)) ∈ lw_ok := wd_t 390 (by decide +kernel) rfl
theorem wd_391 : (Jvm.Cond.lays "java/util/NoSuchElementException" "java/lang/Throwable" "cause" "Ljava/lang/Throwable;") ∈ lw_ok := wd_t 391 (by decide +kernel) rfl
theorem wd_392 : (Jvm.Cond.lays "java/util/NoSuchElementException" "java/lang/Throwable" "stackTrace" "[Ljava/lang/StackTraceElement;") ∈ lw_ok := wd_t 392 (by decide +kernel) rfl
theorem wd_393 : (Jvm.Cond.lays "java/util/NoSuchElementException" "java/lang/Throwable" "suppressedExceptions" "Ljava/util/List;") ∈ lw_ok := wd_t 393 (by decide +kernel) rfl
theorem wd_394 : (Jvm.Cond.lays "java/util/NoSuchElementException" "java/lang/Throwable" "detailMessage" "Ljava/lang/String;") ∈ lw_ok := wd_t 394 (by decide +kernel) rfl
theorem wd_395 : (Jvm.Cond.lays "java/util/NoSuchElementException" "java/lang/Throwable" "backtrace" "Ljava/lang/Object;") ∈ lw_ok := wd_t 395 (by decide +kernel) rfl
theorem wd_396 : (Jvm.Cond.methodLink R_B (96 : Nat) ({ cls := "java/util/NoSuchElementException", name := "<init>", desc := "()V" } : Jvm.MethodName)) ∈ lw_ok := wd_t 396 (by decide +kernel) rfl
theorem wd_397 : (Jvm.Cond.instanceMethod ({ cls := "java/util/NoSuchElementException", name := "<init>", desc := "()V" } : Jvm.MethodName)) ∈ lw_ok := wd_t 397 (by decide +kernel) rfl
theorem wd_398 : (Jvm.Cond.code ({ cls := "java/util/NoSuchElementException", name := "<init>", desc := "()V" } : Jvm.MethodName) prog_12_method_1_code (1 : Nat) (Option.none : Option Jvm.ClassFile.FieldType)) ∈ lw_ok := wd_t 398 (by decide +kernel) rfl
theorem wd_399 : (Jvm.Cond.methodLink "java/util/NoSuchElementException" (1 : Nat) ({ cls := "java/lang/RuntimeException", name := "<init>", desc := "()V" } : Jvm.MethodName)) ∈ lw_ok := wd_t 399 (by decide +kernel) rfl
theorem wd_400 : (Jvm.Cond.lays "java/util/NoSuchElementException" "java/lang/Throwable" "depth" "I") ∈ lw_ok := wd_t 400 (by decide +kernel) rfl
theorem wd_401 : (Jvm.Cond.superclass "java/util/NoSuchElementException" "java/lang/RuntimeException") ∈ lw_ok := wd_t 401 (by decide +kernel) rfl
theorem wd_402 : (Jvm.Cond.methodLink R_L (87 : Nat) y_L_push) ∈ lw_ok := wd_t 402 (by decide +kernel) rfl
theorem wd_403 : (Jvm.Cond.static y_L_push) ∈ lw_ok := wd_t 403 (by decide +kernel) rfl
theorem wd_404 : (Jvm.Cond.codeWith y_L_push method_7_code (3 : Nat) (Option.some Jvm.ClassFile.FieldType.int) [((0 : Nat), (8 : Nat), (11 : Nat), (15 : Nat))]) ∈ lw_ok := wd_t 404 (by decide +kernel) rfl
theorem wd_405 : (Jvm.Cond.methodLink R_L (30 : Nat) y_B_push) ∈ lw_ok := wd_t 405 (by decide +kernel) rfl
theorem wd_406 : (Jvm.Cond.instanceMethod y_B_push) ∈ lw_ok := wd_t 406 (by decide +kernel) rfl
theorem wd_407 : (Jvm.Cond.selects R_B y_B_push y_B_push) ∈ lw_ok := wd_t 407 (by decide +kernel) rfl
theorem wd_408 : (Jvm.Cond.code y_B_push prog_1_method_6_code (1 : Nat) (Option.some Jvm.ClassFile.FieldType.int)) ∈ lw_ok := wd_t 408 (by decide +kernel) rfl
theorem wd_409 : (Jvm.Cond.methodLink R_L (91 : Nat) y_L_pop) ∈ lw_ok := wd_t 409 (by decide +kernel) rfl
theorem wd_410 : (Jvm.Cond.static y_L_pop) ∈ lw_ok := wd_t 410 (by decide +kernel) rfl
theorem wd_411 : (Jvm.Cond.codeWith y_L_pop method_8_code (3 : Nat) (Option.some Jvm.ClassFile.FieldType.int) [((0 : Nat), (8 : Nat), (11 : Nat), (15 : Nat))]) ∈ lw_ok := wd_t 411 (by decide +kernel) rfl
theorem wd_412 : (Jvm.Cond.methodLink R_L (34 : Nat) y_B_pop) ∈ lw_ok := wd_t 412 (by decide +kernel) rfl
theorem wd_413 : (Jvm.Cond.instanceMethod y_B_pop) ∈ lw_ok := wd_t 413 (by decide +kernel) rfl
theorem wd_414 : (Jvm.Cond.selects R_B y_B_pop y_B_pop) ∈ lw_ok := wd_t 414 (by decide +kernel) rfl
theorem wd_415 : (Jvm.Cond.code y_B_pop prog_1_method_7_code (2 : Nat) (Option.some Jvm.ClassFile.FieldType.int)) ∈ lw_ok := wd_t 415 (by decide +kernel) rfl
theorem wd_416 : (Jvm.Cond.methodLink R_L (98 : Nat) y_L_value) ∈ lw_ok := wd_t 416 (by decide +kernel) rfl
theorem wd_417 : (Jvm.Cond.static y_L_value) ∈ lw_ok := wd_t 417 (by decide +kernel) rfl
theorem wd_418 : (Jvm.Cond.codeWith y_L_value method_9_code (4 : Nat) (Option.some Jvm.ClassFile.FieldType.int) [((0 : Nat), (9 : Nat), (12 : Nat), (28 : Nat)), ((0 : Nat), (9 : Nat), (15 : Nat), (40 : Nat))]) ∈ lw_ok := wd_t 418 (by decide +kernel) rfl
theorem wd_419 : (Jvm.Cond.classLink R_L (40 : Nat) "java/lang/UnsupportedOperationException") ∈ lw_ok := wd_t 419 (by decide +kernel) rfl
theorem wd_420 : (Jvm.Cond.methodLink R_L (37 : Nat) y_B_value) ∈ lw_ok := wd_t 420 (by decide +kernel) rfl
theorem wd_421 : (Jvm.Cond.instanceMethod y_B_value) ∈ lw_ok := wd_t 421 (by decide +kernel) rfl
theorem wd_422 : (Jvm.Cond.selects R_B y_B_value y_B_value) ∈ lw_ok := wd_t 422 (by decide +kernel) rfl
theorem wd_423 : (Jvm.Cond.code y_B_value prog_1_method_9_code (3 : Nat) (Option.some Jvm.ClassFile.FieldType.int)) ∈ lw_ok := wd_t 423 (by decide +kernel) rfl
theorem wd_424 : (Jvm.Cond.classLink R_B (120 : Nat) "java/lang/UnsupportedOperationException") ∈ lw_ok := wd_t 424 (by decide +kernel) rfl
theorem wd_425 : (Jvm.Cond.instantiable "java/lang/UnsupportedOperationException" (6 : Nat)) ∈ lw_ok := wd_t 425 (by decide +kernel) rfl
theorem wd_427 : (Jvm.Cond.selects "java/lang/UnsupportedOperationException" ({ cls := "java/lang/Throwable", name := "fillInStackTrace", desc := "(I)Ljava/lang/Throwable;" } : Jvm.MethodName) ({ cls := "java/lang/Throwable", name := "fillInStackTrace", desc := "(I)Ljava/lang/Throwable;" } : Jvm.MethodName)) ∈ lw_ok := wd_t 427 (by decide +kernel) rfl
theorem wd_428 : (Jvm.Cond.lays "java/lang/UnsupportedOperationException" "java/lang/Throwable" "cause" "Ljava/lang/Throwable;") ∈ lw_ok := wd_t 428 (by decide +kernel) rfl
theorem wd_429 : (Jvm.Cond.lays "java/lang/UnsupportedOperationException" "java/lang/Throwable" "stackTrace" "[Ljava/lang/StackTraceElement;") ∈ lw_ok := wd_t 429 (by decide +kernel) rfl
theorem wd_430 : (Jvm.Cond.lays "java/lang/UnsupportedOperationException" "java/lang/Throwable" "suppressedExceptions" "Ljava/util/List;") ∈ lw_ok := wd_t 430 (by decide +kernel) rfl
theorem wd_431 : (Jvm.Cond.lays "java/lang/UnsupportedOperationException" "java/lang/Throwable" "detailMessage" "Ljava/lang/String;") ∈ lw_ok := wd_t 431 (by decide +kernel) rfl
theorem wd_432 : (Jvm.Cond.lays "java/lang/UnsupportedOperationException" "java/lang/Throwable" "backtrace" "Ljava/lang/Object;") ∈ lw_ok := wd_t 432 (by decide +kernel) rfl
theorem wd_433 : (Jvm.Cond.methodLink R_B (122 : Nat) ({ cls := "java/lang/UnsupportedOperationException", name := "<init>", desc := "()V" } : Jvm.MethodName)) ∈ lw_ok := wd_t 433 (by decide +kernel) rfl
theorem wd_434 : (Jvm.Cond.instanceMethod ({ cls := "java/lang/UnsupportedOperationException", name := "<init>", desc := "()V" } : Jvm.MethodName)) ∈ lw_ok := wd_t 434 (by decide +kernel) rfl
theorem wd_435 : (Jvm.Cond.code ({ cls := "java/lang/UnsupportedOperationException", name := "<init>", desc := "()V" } : Jvm.MethodName) prog_11_method_1_code (1 : Nat) (Option.none : Option Jvm.ClassFile.FieldType)) ∈ lw_ok := wd_t 435 (by decide +kernel) rfl
theorem wd_436 : (Jvm.Cond.methodLink "java/lang/UnsupportedOperationException" (1 : Nat) ({ cls := "java/lang/RuntimeException", name := "<init>", desc := "()V" } : Jvm.MethodName)) ∈ lw_ok := wd_t 436 (by decide +kernel) rfl
theorem wd_437 : (Jvm.Cond.lays "java/lang/UnsupportedOperationException" "java/lang/Throwable" "depth" "I") ∈ lw_ok := wd_t 437 (by decide +kernel) rfl
theorem wd_438 : (Jvm.Cond.superclass "java/lang/UnsupportedOperationException" "java/lang/RuntimeException") ∈ lw_ok := wd_t 438 (by decide +kernel) rfl
theorem wd_439 : (Jvm.Cond.methodLink R_B (123 : Nat) y_S_lowest) ∈ lw_ok := wd_t 439 (by decide +kernel) rfl
theorem wd_440 : (Jvm.Cond.instanceMethod y_S_lowest) ∈ lw_ok := wd_t 440 (by decide +kernel) rfl
theorem wd_441 : (Jvm.Cond.selects R_S y_S_lowest y_S_lowest) ∈ lw_ok := wd_t 441 (by decide +kernel) rfl
theorem wd_442 : (Jvm.Cond.code y_S_lowest prog_3_method_17_code (5 : Nat) (Option.some Jvm.ClassFile.FieldType.int)) ∈ lw_ok := wd_t 442 (by decide +kernel) rfl
theorem wd_443 : (Jvm.Cond.methodLink R_S (28 : Nat) y_S_lowestOne) ∈ lw_ok := wd_t 443 (by decide +kernel) rfl
theorem wd_444 : (Jvm.Cond.static y_S_lowestOne) ∈ lw_ok := wd_t 444 (by decide +kernel) rfl
theorem wd_445 : (Jvm.Cond.code y_S_lowestOne prog_3_method_18_code (3 : Nat) (Option.some Jvm.ClassFile.FieldType.int)) ∈ lw_ok := wd_t 445 (by decide +kernel) rfl
theorem wd_446 : (Jvm.Cond.methodLink R_L (101 : Nat) y_L_valueOf) ∈ lw_ok := wd_t 446 (by decide +kernel) rfl
theorem wd_447 : (Jvm.Cond.static y_L_valueOf) ∈ lw_ok := wd_t 447 (by decide +kernel) rfl
theorem wd_448 : (Jvm.Cond.codeWith y_L_valueOf method_10_code (4 : Nat) (Option.some Jvm.ClassFile.FieldType.int) [((0 : Nat), (9 : Nat), (12 : Nat), (28 : Nat)), ((0 : Nat), (9 : Nat), (15 : Nat), (40 : Nat))]) ∈ lw_ok := wd_t 448 (by decide +kernel) rfl
theorem wd_449 : (Jvm.Cond.methodLink R_L (42 : Nat) y_B_valueOf) ∈ lw_ok := wd_t 449 (by decide +kernel) rfl
theorem wd_450 : (Jvm.Cond.instanceMethod y_B_valueOf) ∈ lw_ok := wd_t 450 (by decide +kernel) rfl
theorem wd_451 : (Jvm.Cond.selects R_B y_B_valueOf y_B_valueOf) ∈ lw_ok := wd_t 451 (by decide +kernel) rfl
theorem wd_452 : (Jvm.Cond.code y_B_valueOf prog_1_method_10_code (5 : Nat) (Option.some Jvm.ClassFile.FieldType.int)) ∈ lw_ok := wd_t 452 (by decide +kernel) rfl
theorem wd_453 : (Jvm.Cond.methodLink R_B (133 : Nat) y_S_contains) ∈ lw_ok := wd_t 453 (by decide +kernel) rfl
theorem wd_454 : (Jvm.Cond.instanceMethod y_S_contains) ∈ lw_ok := wd_t 454 (by decide +kernel) rfl
theorem wd_455 : (Jvm.Cond.selects R_S y_S_contains y_S_contains) ∈ lw_ok := wd_t 455 (by decide +kernel) rfl
theorem wd_456 : (Jvm.Cond.code y_S_contains prog_3_method_16_code (5 : Nat) (Option.some Jvm.ClassFile.FieldType.boolean)) ∈ lw_ok := wd_t 456 (by decide +kernel) rfl
theorem wd_457 : (Jvm.Cond.methodLink R_L (104 : Nat) y_L_entailed) ∈ lw_ok := wd_t 457 (by decide +kernel) rfl
theorem wd_458 : (Jvm.Cond.static y_L_entailed) ∈ lw_ok := wd_t 458 (by decide +kernel) rfl
theorem wd_459 : (Jvm.Cond.codeWith y_L_entailed method_11_code (4 : Nat) (Option.some Jvm.ClassFile.FieldType.int) [((0 : Nat), (9 : Nat), (12 : Nat), (28 : Nat)), ((0 : Nat), (9 : Nat), (15 : Nat), (40 : Nat))]) ∈ lw_ok := wd_t 459 (by decide +kernel) rfl
theorem wd_460 : (Jvm.Cond.methodLink R_L (45 : Nat) y_B_entailed) ∈ lw_ok := wd_t 460 (by decide +kernel) rfl
theorem wd_461 : (Jvm.Cond.instanceMethod y_B_entailed) ∈ lw_ok := wd_t 461 (by decide +kernel) rfl
theorem wd_462 : (Jvm.Cond.selects R_B y_B_entailed y_B_entailed) ∈ lw_ok := wd_t 462 (by decide +kernel) rfl
theorem wd_463 : (Jvm.Cond.code y_B_entailed prog_1_method_11_code (2 : Nat) (Option.some Jvm.ClassFile.FieldType.int)) ∈ lw_ok := wd_t 463 (by decide +kernel) rfl
theorem wd_464 : (Jvm.Cond.methodLink R_B (137 : Nat) y_S_isWithin) ∈ lw_ok := wd_t 464 (by decide +kernel) rfl
theorem wd_465 : (Jvm.Cond.instanceMethod y_S_isWithin) ∈ lw_ok := wd_t 465 (by decide +kernel) rfl
theorem wd_466 : (Jvm.Cond.selects R_S y_S_isWithin y_S_isWithin) ∈ lw_ok := wd_t 466 (by decide +kernel) rfl
theorem wd_467 : (Jvm.Cond.code y_S_isWithin prog_3_method_15_code (4 : Nat) (Option.some Jvm.ClassFile.FieldType.boolean)) ∈ lw_ok := wd_t 467 (by decide +kernel) rfl
theorem wd_468 : (Jvm.Cond.methodLink R_B (140 : Nat) y_S_meets) ∈ lw_ok := wd_t 468 (by decide +kernel) rfl
theorem wd_469 : (Jvm.Cond.instanceMethod y_S_meets) ∈ lw_ok := wd_t 469 (by decide +kernel) rfl
theorem wd_470 : (Jvm.Cond.selects R_S y_S_meets y_S_meets) ∈ lw_ok := wd_t 470 (by decide +kernel) rfl
theorem wd_471 : (Jvm.Cond.code y_S_meets prog_3_method_13_code (3 : Nat) (Option.some Jvm.ClassFile.FieldType.boolean)) ∈ lw_ok := wd_t 471 (by decide +kernel) rfl
theorem wd_472 : (Jvm.Cond.methodLink R_L (107 : Nat) y_L_fixed) ∈ lw_ok := wd_t 472 (by decide +kernel) rfl
theorem wd_473 : (Jvm.Cond.static y_L_fixed) ∈ lw_ok := wd_t 473 (by decide +kernel) rfl
theorem wd_474 : (Jvm.Cond.codeWith y_L_fixed method_12_code (4 : Nat) (Option.some Jvm.ClassFile.FieldType.int) [((0 : Nat), (9 : Nat), (12 : Nat), (28 : Nat)), ((0 : Nat), (9 : Nat), (15 : Nat), (40 : Nat))]) ∈ lw_ok := wd_t 474 (by decide +kernel) rfl
theorem wd_475 : (Jvm.Cond.methodLink R_L (48 : Nat) y_B_fixed) ∈ lw_ok := wd_t 475 (by decide +kernel) rfl
theorem wd_476 : (Jvm.Cond.instanceMethod y_B_fixed) ∈ lw_ok := wd_t 476 (by decide +kernel) rfl
theorem wd_477 : (Jvm.Cond.selects R_B y_B_fixed y_B_fixed) ∈ lw_ok := wd_t 477 (by decide +kernel) rfl
theorem wd_478 : (Jvm.Cond.code y_B_fixed prog_1_method_12_code (4 : Nat) (Option.some Jvm.ClassFile.FieldType.int)) ∈ lw_ok := wd_t 478 (by decide +kernel) rfl
theorem wd_479 : (Jvm.Cond.methodLink R_L (110 : Nat) y_L_least) ∈ lw_ok := wd_t 479 (by decide +kernel) rfl
theorem wd_480 : (Jvm.Cond.static y_L_least) ∈ lw_ok := wd_t 480 (by decide +kernel) rfl
theorem wd_481 : (Jvm.Cond.codeWith y_L_least method_13_code (4 : Nat) (Option.some Jvm.ClassFile.FieldType.int) [((0 : Nat), (9 : Nat), (12 : Nat), (28 : Nat)), ((0 : Nat), (9 : Nat), (15 : Nat), (40 : Nat))]) ∈ lw_ok := wd_t 481 (by decide +kernel) rfl
theorem wd_482 : (Jvm.Cond.methodLink R_L (51 : Nat) y_B_least) ∈ lw_ok := wd_t 482 (by decide +kernel) rfl
theorem wd_483 : (Jvm.Cond.instanceMethod y_B_least) ∈ lw_ok := wd_t 483 (by decide +kernel) rfl
theorem wd_484 : (Jvm.Cond.selects R_B y_B_least y_B_least) ∈ lw_ok := wd_t 484 (by decide +kernel) rfl
theorem wd_485 : (Jvm.Cond.code y_B_least prog_1_method_13_code (4 : Nat) (Option.some Jvm.ClassFile.FieldType.int)) ∈ lw_ok := wd_t 485 (by decide +kernel) rfl
theorem wd_486 : (Jvm.Cond.methodLink R_B (147 : Nat) y_S_remove) ∈ lw_ok := wd_t 486 (by decide +kernel) rfl
theorem wd_487 : (Jvm.Cond.methodLink R_L (113 : Nat) y_L_assume) ∈ lw_ok := wd_t 487 (by decide +kernel) rfl
theorem wd_488 : (Jvm.Cond.static y_L_assume) ∈ lw_ok := wd_t 488 (by decide +kernel) rfl
theorem wd_489 : (Jvm.Cond.codeWith y_L_assume method_14_code (4 : Nat) (Option.some Jvm.ClassFile.FieldType.int) [((0 : Nat), (9 : Nat), (12 : Nat), (28 : Nat)), ((0 : Nat), (9 : Nat), (15 : Nat), (15 : Nat))]) ∈ lw_ok := wd_t 489 (by decide +kernel) rfl
theorem wd_490 : (Jvm.Cond.methodLink R_L (54 : Nat) y_B_assume) ∈ lw_ok := wd_t 490 (by decide +kernel) rfl
theorem wd_491 : (Jvm.Cond.instanceMethod y_B_assume) ∈ lw_ok := wd_t 491 (by decide +kernel) rfl
theorem wd_492 : (Jvm.Cond.selects R_B y_B_assume y_B_assume) ∈ lw_ok := wd_t 492 (by decide +kernel) rfl
theorem wd_493 : (Jvm.Cond.code y_B_assume prog_1_method_14_code (2 : Nat) (Option.some Jvm.ClassFile.FieldType.int)) ∈ lw_ok := wd_t 493 (by decide +kernel) rfl
theorem wd_494 : (Jvm.Cond.methodLink R_L (124 : Nat) y_L_blame) ∈ lw_ok := wd_t 494 (by decide +kernel) rfl
theorem wd_495 : (Jvm.Cond.static y_L_blame) ∈ lw_ok := wd_t 495 (by decide +kernel) rfl
theorem wd_496 : (Jvm.Cond.codeWith y_L_blame method_15_code (3 : Nat) (Option.some Jvm.ClassFile.FieldType.int) [((0 : Nat), (8 : Nat), (11 : Nat), (15 : Nat))]) ∈ lw_ok := wd_t 496 (by decide +kernel) rfl
theorem wd_497 : (Jvm.Cond.methodLink R_L (57 : Nat) y_B_blame) ∈ lw_ok := wd_t 497 (by decide +kernel) rfl
theorem wd_498 : (Jvm.Cond.instanceMethod y_B_blame) ∈ lw_ok := wd_t 498 (by decide +kernel) rfl
theorem wd_499 : (Jvm.Cond.selects R_B y_B_blame y_B_blame) ∈ lw_ok := wd_t 499 (by decide +kernel) rfl
theorem wd_500 : (Jvm.Cond.code y_B_blame prog_1_method_17_code (4 : Nat) (Option.some Jvm.ClassFile.FieldType.int)) ∈ lw_ok := wd_t 500 (by decide +kernel) rfl
theorem wd_501 : (Jvm.Cond.methodLink R_L (127 : Nat) y_L_count) ∈ lw_ok := wd_t 501 (by decide +kernel) rfl
theorem wd_502 : (Jvm.Cond.static y_L_count) ∈ lw_ok := wd_t 502 (by decide +kernel) rfl
theorem wd_503 : (Jvm.Cond.codeWith y_L_count method_16_code (4 : Nat) (Option.some Jvm.ClassFile.FieldType.int) [((0 : Nat), (9 : Nat), (12 : Nat), (13 : Nat))]) ∈ lw_ok := wd_t 503 (by decide +kernel) rfl
theorem wd_504 : (Jvm.Cond.methodLink R_L (60 : Nat) y_B_count) ∈ lw_ok := wd_t 504 (by decide +kernel) rfl
theorem wd_505 : (Jvm.Cond.instanceMethod y_B_count) ∈ lw_ok := wd_t 505 (by decide +kernel) rfl
theorem wd_506 : (Jvm.Cond.selects R_B y_B_count y_B_count) ∈ lw_ok := wd_t 506 (by decide +kernel) rfl
theorem wd_507 : (Jvm.Cond.code y_B_count prog_1_method_18_code (2 : Nat) (Option.some Jvm.ClassFile.FieldType.int)) ∈ lw_ok := wd_t 507 (by decide +kernel) rfl
theorem wd_508 : (Jvm.Cond.classLink R_L (64 : Nat) "BitSolverModel") ∈ lw_ok := wd_t 508 (by decide +kernel) rfl
theorem wd_509 : (Jvm.Cond.instantiable R_M (23 : Nat)) ∈ lw_ok := wd_t 509 (by decide +kernel) rfl
theorem wd_510 : (Jvm.Cond.methodLink R_L (66 : Nat) y_M_init) ∈ lw_ok := wd_t 510 (by decide +kernel) rfl
theorem wd_511 : (Jvm.Cond.instanceMethod y_M_init) ∈ lw_ok := wd_t 511 (by decide +kernel) rfl
theorem wd_512 : (Jvm.Cond.code y_M_init prog_5_method_1_code (1 : Nat) (Option.none : Option Jvm.ClassFile.FieldType)) ∈ lw_ok := wd_t 512 (by decide +kernel) rfl
theorem wd_513 : (Jvm.Cond.methodLink R_M (1 : Nat) objectInit) ∈ lw_ok := wd_t 513 (by decide +kernel) rfl
theorem wd_514 : (Jvm.Cond.fieldLink R_M (56 : Nat) "BitSolverModel" "thrown" "I") ∈ lw_ok := wd_t 514 (by decide +kernel) rfl
theorem wd_515 : (Jvm.Cond.fieldLink R_M (7 : Nat) "BitSolverModel" "widths" "[I") ∈ lw_ok := wd_t 515 (by decide +kernel) rfl
theorem wd_516 : (Jvm.Cond.fieldLink R_M (68 : Nat) "BitSolverModel" "variables" "I") ∈ lw_ok := wd_t 516 (by decide +kernel) rfl
theorem wd_517 : (Jvm.Cond.fieldLink R_M (71 : Nat) "BitSolverModel" "bits" "I") ∈ lw_ok := wd_t 517 (by decide +kernel) rfl
theorem wd_518 : (Jvm.Cond.fieldLink R_M (13 : Nat) "BitSolverModel" "tKind" "[I") ∈ lw_ok := wd_t 518 (by decide +kernel) rfl
theorem wd_519 : (Jvm.Cond.fieldLink R_M (16 : Nat) "BitSolverModel" "tA" "[I") ∈ lw_ok := wd_t 519 (by decide +kernel) rfl
theorem wd_520 : (Jvm.Cond.fieldLink R_M (19 : Nat) "BitSolverModel" "tB" "[I") ∈ lw_ok := wd_t 520 (by decide +kernel) rfl
theorem wd_521 : (Jvm.Cond.fieldLink R_M (22 : Nat) "BitSolverModel" "tC" "[I") ∈ lw_ok := wd_t 521 (by decide +kernel) rfl
theorem wd_522 : (Jvm.Cond.fieldLink R_M (25 : Nat) "BitSolverModel" "tWidth" "[I") ∈ lw_ok := wd_t 522 (by decide +kernel) rfl
theorem wd_523 : (Jvm.Cond.fieldLink R_M (74 : Nat) "BitSolverModel" "terms" "I") ∈ lw_ok := wd_t 523 (by decide +kernel) rfl
theorem wd_524 : (Jvm.Cond.fieldLink R_M (28 : Nat) "BitSolverModel" "fKind" "[I") ∈ lw_ok := wd_t 524 (by decide +kernel) rfl
theorem wd_525 : (Jvm.Cond.fieldLink R_M (31 : Nat) "BitSolverModel" "fA" "[I") ∈ lw_ok := wd_t 525 (by decide +kernel) rfl
theorem wd_526 : (Jvm.Cond.fieldLink R_M (34 : Nat) "BitSolverModel" "fB" "[I") ∈ lw_ok := wd_t 526 (by decide +kernel) rfl
theorem wd_527 : (Jvm.Cond.fieldLink R_M (77 : Nat) "BitSolverModel" "formulas" "I") ∈ lw_ok := wd_t 527 (by decide +kernel) rfl
theorem wd_528 : (Jvm.Cond.fieldLink R_M (37 : Nat) "BitSolverModel" "order" "[I") ∈ lw_ok := wd_t 528 (by decide +kernel) rfl
theorem wd_529 : (Jvm.Cond.fieldLink R_M (40 : Nat) "BitSolverModel" "asserted" "[I") ∈ lw_ok := wd_t 529 (by decide +kernel) rfl
theorem wd_530 : (Jvm.Cond.fieldLink R_M (43 : Nat) "BitSolverModel" "assertedAt" "[I") ∈ lw_ok := wd_t 530 (by decide +kernel) rfl
theorem wd_531 : (Jvm.Cond.fieldLink R_M (111 : Nat) "BitSolverModel" "assertions" "I") ∈ lw_ok := wd_t 531 (by decide +kernel) rfl
theorem wd_532 : (Jvm.Cond.fieldLink R_M (120 : Nat) "BitSolverModel" "level" "I") ∈ lw_ok := wd_t 532 (by decide +kernel) rfl
theorem wd_533 : (Jvm.Cond.fieldLink R_M (46 : Nat) "BitSolverModel" "assumed" "[I") ∈ lw_ok := wd_t 533 (by decide +kernel) rfl
theorem wd_534 : (Jvm.Cond.fieldLink R_M (114 : Nat) "BitSolverModel" "assumptions" "I") ∈ lw_ok := wd_t 534 (by decide +kernel) rfl
theorem wd_535 : (Jvm.Cond.fieldLink R_M (49 : Nat) "BitSolverModel" "value" "[I") ∈ lw_ok := wd_t 535 (by decide +kernel) rfl
theorem wd_536 : (Jvm.Cond.fieldLink R_M (52 : Nat) "BitSolverModel" "holds" "[Z") ∈ lw_ok := wd_t 536 (by decide +kernel) rfl
theorem wd_537 : (Jvm.Cond.lays R_M "BitSolverModel" "thrown" "I") ∈ lw_ok := wd_t 537 (by decide +kernel) rfl
theorem wd_538 : (Jvm.Cond.soleField R_M "thrown") ∈ lw_ok := wd_t 538 (by decide +kernel) rfl
theorem wd_539 : (Jvm.Cond.laysFinal R_M "BitSolverModel" "widths" "[I") ∈ lw_ok := wd_t 539 (by decide +kernel) rfl
theorem wd_540 : (Jvm.Cond.soleField R_M "widths") ∈ lw_ok := wd_t 540 (by decide +kernel) rfl
theorem wd_541 : (Jvm.Cond.lays R_M "BitSolverModel" "variables" "I") ∈ lw_ok := wd_t 541 (by decide +kernel) rfl
theorem wd_542 : (Jvm.Cond.soleField R_M "variables") ∈ lw_ok := wd_t 542 (by decide +kernel) rfl
theorem wd_543 : (Jvm.Cond.lays R_M "BitSolverModel" "bits" "I") ∈ lw_ok := wd_t 543 (by decide +kernel) rfl
theorem wd_544 : (Jvm.Cond.soleField R_M "bits") ∈ lw_ok := wd_t 544 (by decide +kernel) rfl
theorem wd_545 : (Jvm.Cond.laysFinal R_M "BitSolverModel" "tKind" "[I") ∈ lw_ok := wd_t 545 (by decide +kernel) rfl
theorem wd_546 : (Jvm.Cond.soleField R_M "tKind") ∈ lw_ok := wd_t 546 (by decide +kernel) rfl
theorem wd_547 : (Jvm.Cond.laysFinal R_M "BitSolverModel" "tA" "[I") ∈ lw_ok := wd_t 547 (by decide +kernel) rfl
theorem wd_548 : (Jvm.Cond.soleField R_M "tA") ∈ lw_ok := wd_t 548 (by decide +kernel) rfl
theorem wd_549 : (Jvm.Cond.laysFinal R_M "BitSolverModel" "tB" "[I") ∈ lw_ok := wd_t 549 (by decide +kernel) rfl
theorem wd_550 : (Jvm.Cond.soleField R_M "tB") ∈ lw_ok := wd_t 550 (by decide +kernel) rfl
theorem wd_551 : (Jvm.Cond.laysFinal R_M "BitSolverModel" "tC" "[I") ∈ lw_ok := wd_t 551 (by decide +kernel) rfl
theorem wd_552 : (Jvm.Cond.soleField R_M "tC") ∈ lw_ok := wd_t 552 (by decide +kernel) rfl
theorem wd_553 : (Jvm.Cond.laysFinal R_M "BitSolverModel" "tWidth" "[I") ∈ lw_ok := wd_t 553 (by decide +kernel) rfl
theorem wd_554 : (Jvm.Cond.soleField R_M "tWidth") ∈ lw_ok := wd_t 554 (by decide +kernel) rfl
theorem wd_555 : (Jvm.Cond.lays R_M "BitSolverModel" "terms" "I") ∈ lw_ok := wd_t 555 (by decide +kernel) rfl
theorem wd_556 : (Jvm.Cond.soleField R_M "terms") ∈ lw_ok := wd_t 556 (by decide +kernel) rfl
theorem wd_557 : (Jvm.Cond.laysFinal R_M "BitSolverModel" "fKind" "[I") ∈ lw_ok := wd_t 557 (by decide +kernel) rfl
theorem wd_558 : (Jvm.Cond.soleField R_M "fKind") ∈ lw_ok := wd_t 558 (by decide +kernel) rfl
theorem wd_559 : (Jvm.Cond.laysFinal R_M "BitSolverModel" "fA" "[I") ∈ lw_ok := wd_t 559 (by decide +kernel) rfl
theorem wd_560 : (Jvm.Cond.soleField R_M "fA") ∈ lw_ok := wd_t 560 (by decide +kernel) rfl
theorem wd_561 : (Jvm.Cond.laysFinal R_M "BitSolverModel" "fB" "[I") ∈ lw_ok := wd_t 561 (by decide +kernel) rfl
theorem wd_562 : (Jvm.Cond.soleField R_M "fB") ∈ lw_ok := wd_t 562 (by decide +kernel) rfl
theorem wd_563 : (Jvm.Cond.lays R_M "BitSolverModel" "formulas" "I") ∈ lw_ok := wd_t 563 (by decide +kernel) rfl
theorem wd_564 : (Jvm.Cond.soleField R_M "formulas") ∈ lw_ok := wd_t 564 (by decide +kernel) rfl
theorem wd_565 : (Jvm.Cond.laysFinal R_M "BitSolverModel" "order" "[I") ∈ lw_ok := wd_t 565 (by decide +kernel) rfl
theorem wd_566 : (Jvm.Cond.soleField R_M "order") ∈ lw_ok := wd_t 566 (by decide +kernel) rfl
theorem wd_567 : (Jvm.Cond.laysFinal R_M "BitSolverModel" "asserted" "[I") ∈ lw_ok := wd_t 567 (by decide +kernel) rfl
theorem wd_568 : (Jvm.Cond.soleField R_M "asserted") ∈ lw_ok := wd_t 568 (by decide +kernel) rfl
theorem wd_569 : (Jvm.Cond.laysFinal R_M "BitSolverModel" "assertedAt" "[I") ∈ lw_ok := wd_t 569 (by decide +kernel) rfl
theorem wd_570 : (Jvm.Cond.soleField R_M "assertedAt") ∈ lw_ok := wd_t 570 (by decide +kernel) rfl
theorem wd_571 : (Jvm.Cond.lays R_M "BitSolverModel" "assertions" "I") ∈ lw_ok := wd_t 571 (by decide +kernel) rfl
theorem wd_572 : (Jvm.Cond.soleField R_M "assertions") ∈ lw_ok := wd_t 572 (by decide +kernel) rfl
theorem wd_573 : (Jvm.Cond.lays R_M "BitSolverModel" "level" "I") ∈ lw_ok := wd_t 573 (by decide +kernel) rfl
theorem wd_574 : (Jvm.Cond.soleField R_M "level") ∈ lw_ok := wd_t 574 (by decide +kernel) rfl
theorem wd_575 : (Jvm.Cond.laysFinal R_M "BitSolverModel" "assumed" "[I") ∈ lw_ok := wd_t 575 (by decide +kernel) rfl
theorem wd_576 : (Jvm.Cond.soleField R_M "assumed") ∈ lw_ok := wd_t 576 (by decide +kernel) rfl
theorem wd_577 : (Jvm.Cond.lays R_M "BitSolverModel" "assumptions" "I") ∈ lw_ok := wd_t 577 (by decide +kernel) rfl
theorem wd_578 : (Jvm.Cond.soleField R_M "assumptions") ∈ lw_ok := wd_t 578 (by decide +kernel) rfl
theorem wd_579 : (Jvm.Cond.laysFinal R_M "BitSolverModel" "value" "[I") ∈ lw_ok := wd_t 579 (by decide +kernel) rfl
theorem wd_580 : (Jvm.Cond.soleField R_M "value") ∈ lw_ok := wd_t 580 (by decide +kernel) rfl
theorem wd_581 : (Jvm.Cond.laysFinal R_M "BitSolverModel" "holds" "[Z") ∈ lw_ok := wd_t 581 (by decide +kernel) rfl
theorem wd_582 : (Jvm.Cond.soleField R_M "holds") ∈ lw_ok := wd_t 582 (by decide +kernel) rfl
theorem wd_583 : (Jvm.Cond.superclass R_M "java/lang/Object") ∈ lw_ok := wd_t 583 (by decide +kernel) rfl
theorem wd_584 : (Jvm.Cond.arrayClass Jvm.ClassFile.FieldType.boolean) ∈ lw_ok := wd_t 584 (by decide +kernel) rfl
theorem wd_585 : (Jvm.Cond.methodLink R_L (73 : Nat) y_M_thrown) ∈ lw_ok := wd_t 585 (by decide +kernel) rfl
theorem wd_586 : (Jvm.Cond.instanceMethod y_M_thrown) ∈ lw_ok := wd_t 586 (by decide +kernel) rfl
theorem wd_587 : (Jvm.Cond.selects R_M y_M_thrown y_M_thrown) ∈ lw_ok := wd_t 587 (by decide +kernel) rfl
theorem wd_588 : (Jvm.Cond.code y_M_thrown prog_5_method_2_code (1 : Nat) (Option.some Jvm.ClassFile.FieldType.int)) ∈ lw_ok := wd_t 588 (by decide +kernel) rfl
theorem wd_589 : (Jvm.Cond.methodLink R_L (72 : Nat) y_M_variable) ∈ lw_ok := wd_t 589 (by decide +kernel) rfl
theorem wd_590 : (Jvm.Cond.instanceMethod y_M_variable) ∈ lw_ok := wd_t 590 (by decide +kernel) rfl
theorem wd_591 : (Jvm.Cond.selects R_M y_M_variable y_M_variable) ∈ lw_ok := wd_t 591 (by decide +kernel) rfl
theorem wd_592 : (Jvm.Cond.code y_M_variable prog_5_method_5_code (2 : Nat) (Option.some Jvm.ClassFile.FieldType.int)) ∈ lw_ok := wd_t 592 (by decide +kernel) rfl
theorem wd_593 : (Jvm.Cond.methodLink R_M (60 : Nat) y_M_in) ∈ lw_ok := wd_t 593 (by decide +kernel) rfl
theorem wd_594 : (Jvm.Cond.static y_M_in) ∈ lw_ok := wd_t 594 (by decide +kernel) rfl
theorem wd_595 : (Jvm.Cond.code y_M_in prog_5_method_4_code (3 : Nat) (Option.some Jvm.ClassFile.FieldType.boolean)) ∈ lw_ok := wd_t 595 (by decide +kernel) rfl
theorem wd_596 : (Jvm.Cond.methodLink R_M (64 : Nat) y_M_raise) ∈ lw_ok := wd_t 596 (by decide +kernel) rfl
theorem wd_598 : (Jvm.Cond.instanceMethod y_M_raise) ∈ lw_ok := wd_t 598 (by decide +kernel) rfl
theorem wd_599 : (Jvm.Cond.code y_M_raise prog_5_method_3_code (2 : Nat) (Option.some Jvm.ClassFile.FieldType.int)) ∈ lw_ok := wd_t 599 (by decide +kernel) rfl
theorem wd_600 : (Jvm.Cond.methodLink R_L (79 : Nat) y_M_term) ∈ lw_ok := wd_t 600 (by decide +kernel) rfl
theorem wd_601 : (Jvm.Cond.instanceMethod y_M_term) ∈ lw_ok := wd_t 601 (by decide +kernel) rfl
theorem wd_602 : (Jvm.Cond.selects R_M y_M_term y_M_term) ∈ lw_ok := wd_t 602 (by decide +kernel) rfl
theorem wd_603 : (Jvm.Cond.code y_M_term prog_5_method_10_code (6 : Nat) (Option.some Jvm.ClassFile.FieldType.int)) ∈ lw_ok := wd_t 603 (by decide +kernel) rfl
theorem wd_604 : (Jvm.Cond.methodLink R_M (91 : Nat) y_M_widthOf) ∈ lw_ok := wd_t 604 (by decide +kernel) rfl
theorem wd_606 : (Jvm.Cond.instanceMethod y_M_widthOf) ∈ lw_ok := wd_t 606 (by decide +kernel) rfl
theorem wd_607 : (Jvm.Cond.code y_M_widthOf prog_5_method_9_code (5 : Nat) (Option.some Jvm.ClassFile.FieldType.int)) ∈ lw_ok := wd_t 607 (by decide +kernel) rfl
theorem wd_608 : (Jvm.Cond.methodLink R_M (84 : Nat) y_M_alike) ∈ lw_ok := wd_t 608 (by decide +kernel) rfl
theorem wd_610 : (Jvm.Cond.instanceMethod y_M_alike) ∈ lw_ok := wd_t 610 (by decide +kernel) rfl
theorem wd_611 : (Jvm.Cond.code y_M_alike prog_5_method_8_code (3 : Nat) (Option.some Jvm.ClassFile.FieldType.boolean)) ∈ lw_ok := wd_t 611 (by decide +kernel) rfl
theorem wd_612 : (Jvm.Cond.methodLink R_M (80 : Nat) y_M_isTerm) ∈ lw_ok := wd_t 612 (by decide +kernel) rfl
theorem wd_614 : (Jvm.Cond.instanceMethod y_M_isTerm) ∈ lw_ok := wd_t 614 (by decide +kernel) rfl
theorem wd_615 : (Jvm.Cond.code y_M_isTerm prog_5_method_6_code (2 : Nat) (Option.some Jvm.ClassFile.FieldType.boolean)) ∈ lw_ok := wd_t 615 (by decide +kernel) rfl
theorem wd_616 : (Jvm.Cond.methodLink R_M (88 : Nat) y_M_isFormula) ∈ lw_ok := wd_t 616 (by decide +kernel) rfl
theorem wd_618 : (Jvm.Cond.instanceMethod y_M_isFormula) ∈ lw_ok := wd_t 618 (by decide +kernel) rfl
theorem wd_619 : (Jvm.Cond.code y_M_isFormula prog_5_method_7_code (2 : Nat) (Option.some Jvm.ClassFile.FieldType.boolean)) ∈ lw_ok := wd_t 619 (by decide +kernel) rfl
theorem wd_620 : (Jvm.Cond.methodLink R_L (83 : Nat) y_M_formula) ∈ lw_ok := wd_t 620 (by decide +kernel) rfl
theorem wd_621 : (Jvm.Cond.instanceMethod y_M_formula) ∈ lw_ok := wd_t 621 (by decide +kernel) rfl
theorem wd_622 : (Jvm.Cond.selects R_M y_M_formula y_M_formula) ∈ lw_ok := wd_t 622 (by decide +kernel) rfl
theorem wd_623 : (Jvm.Cond.code y_M_formula prog_5_method_12_code (4 : Nat) (Option.some Jvm.ClassFile.FieldType.int)) ∈ lw_ok := wd_t 623 (by decide +kernel) rfl
theorem wd_624 : (Jvm.Cond.methodLink R_M (95 : Nat) y_M_can) ∈ lw_ok := wd_t 624 (by decide +kernel) rfl
theorem wd_626 : (Jvm.Cond.instanceMethod y_M_can) ∈ lw_ok := wd_t 626 (by decide +kernel) rfl
theorem wd_627 : (Jvm.Cond.code y_M_can prog_5_method_11_code (4 : Nat) (Option.some Jvm.ClassFile.FieldType.boolean)) ∈ lw_ok := wd_t 627 (by decide +kernel) rfl
theorem wd_628 : (Jvm.Cond.methodLink R_L (86 : Nat) y_M_assertion) ∈ lw_ok := wd_t 628 (by decide +kernel) rfl
theorem wd_629 : (Jvm.Cond.instanceMethod y_M_assertion) ∈ lw_ok := wd_t 629 (by decide +kernel) rfl
theorem wd_630 : (Jvm.Cond.selects R_M y_M_assertion y_M_assertion) ∈ lw_ok := wd_t 630 (by decide +kernel) rfl
theorem wd_631 : (Jvm.Cond.code y_M_assertion prog_5_method_19_code (2 : Nat) (Option.some Jvm.ClassFile.FieldType.int)) ∈ lw_ok := wd_t 631 (by decide +kernel) rfl
theorem wd_632 : (Jvm.Cond.methodLink R_L (90 : Nat) y_M_push) ∈ lw_ok := wd_t 632 (by decide +kernel) rfl
theorem wd_633 : (Jvm.Cond.instanceMethod y_M_push) ∈ lw_ok := wd_t 633 (by decide +kernel) rfl
theorem wd_634 : (Jvm.Cond.selects R_M y_M_push y_M_push) ∈ lw_ok := wd_t 634 (by decide +kernel) rfl
theorem wd_635 : (Jvm.Cond.code y_M_push prog_5_method_20_code (1 : Nat) (Option.some Jvm.ClassFile.FieldType.int)) ∈ lw_ok := wd_t 635 (by decide +kernel) rfl
theorem wd_636 : (Jvm.Cond.methodLink R_L (93 : Nat) y_M_pop) ∈ lw_ok := wd_t 636 (by decide +kernel) rfl
theorem wd_637 : (Jvm.Cond.instanceMethod y_M_pop) ∈ lw_ok := wd_t 637 (by decide +kernel) rfl
theorem wd_638 : (Jvm.Cond.selects R_M y_M_pop y_M_pop) ∈ lw_ok := wd_t 638 (by decide +kernel) rfl
theorem wd_639 : (Jvm.Cond.code y_M_pop prog_5_method_21_code (2 : Nat) (Option.some Jvm.ClassFile.FieldType.int)) ∈ lw_ok := wd_t 639 (by decide +kernel) rfl
theorem wd_640 : (Jvm.Cond.methodLink R_L (97 : Nat) y_M_check) ∈ lw_ok := wd_t 640 (by decide +kernel) rfl
theorem wd_641 : (Jvm.Cond.instanceMethod y_M_check) ∈ lw_ok := wd_t 641 (by decide +kernel) rfl
theorem wd_642 : (Jvm.Cond.selects R_M y_M_check y_M_check) ∈ lw_ok := wd_t 642 (by decide +kernel) rfl
theorem wd_643 : (Jvm.Cond.code y_M_check prog_5_method_22_code (1 : Nat) (Option.some Jvm.ClassFile.FieldType.int)) ∈ lw_ok := wd_t 643 (by decide +kernel) rfl
theorem wd_644 : (Jvm.Cond.methodLink R_M (123 : Nat) y_M_next) ∈ lw_ok := wd_t 644 (by decide +kernel) rfl
theorem wd_646 : (Jvm.Cond.instanceMethod y_M_next) ∈ lw_ok := wd_t 646 (by decide +kernel) rfl
theorem wd_647 : (Jvm.Cond.code y_M_next prog_5_method_18_code (4 : Nat) (Option.some Jvm.ClassFile.FieldType.int)) ∈ lw_ok := wd_t 647 (by decide +kernel) rfl
theorem wd_648 : (Jvm.Cond.methodLink R_M (117 : Nat) y_M_models) ∈ lw_ok := wd_t 648 (by decide +kernel) rfl
theorem wd_650 : (Jvm.Cond.instanceMethod y_M_models) ∈ lw_ok := wd_t 650 (by decide +kernel) rfl
theorem wd_651 : (Jvm.Cond.code y_M_models prog_5_method_17_code (5 : Nat) (Option.some Jvm.ClassFile.FieldType.boolean)) ∈ lw_ok := wd_t 651 (by decide +kernel) rfl
theorem wd_652 : (Jvm.Cond.methodLink R_M (105 : Nat) y_M_raw) ∈ lw_ok := wd_t 652 (by decide +kernel) rfl
theorem wd_654 : (Jvm.Cond.instanceMethod y_M_raw) ∈ lw_ok := wd_t 654 (by decide +kernel) rfl
theorem wd_655 : (Jvm.Cond.code y_M_raw prog_5_method_15_code (5 : Nat) (Option.some Jvm.ClassFile.FieldType.int)) ∈ lw_ok := wd_t 655 (by decide +kernel) rfl
theorem wd_656 : (Jvm.Cond.methodLink R_M (98 : Nat) y_M_given) ∈ lw_ok := wd_t 656 (by decide +kernel) rfl
theorem wd_658 : (Jvm.Cond.instanceMethod y_M_given) ∈ lw_ok := wd_t 658 (by decide +kernel) rfl
theorem wd_659 : (Jvm.Cond.code y_M_given prog_5_method_14_code (5 : Nat) (Option.some Jvm.ClassFile.FieldType.int)) ∈ lw_ok := wd_t 659 (by decide +kernel) rfl
theorem wd_660 : (Jvm.Cond.methodLink R_M (102 : Nat) y_M_signed) ∈ lw_ok := wd_t 660 (by decide +kernel) rfl
theorem wd_661 : (Jvm.Cond.static y_M_signed) ∈ lw_ok := wd_t 661 (by decide +kernel) rfl
theorem wd_662 : (Jvm.Cond.code y_M_signed prog_5_method_13_code (2 : Nat) (Option.some Jvm.ClassFile.FieldType.int)) ∈ lw_ok := wd_t 662 (by decide +kernel) rfl
theorem wd_663 : (Jvm.Cond.methodLink R_M (108 : Nat) y_M_truth) ∈ lw_ok := wd_t 663 (by decide +kernel) rfl
theorem wd_665 : (Jvm.Cond.instanceMethod y_M_truth) ∈ lw_ok := wd_t 665 (by decide +kernel) rfl
theorem wd_666 : (Jvm.Cond.code y_M_truth prog_5_method_16_code (4 : Nat) (Option.some Jvm.ClassFile.FieldType.boolean)) ∈ lw_ok := wd_t 666 (by decide +kernel) rfl
theorem wd_667 : (Jvm.Cond.methodLink R_L (100 : Nat) y_M_value) ∈ lw_ok := wd_t 667 (by decide +kernel) rfl
theorem wd_668 : (Jvm.Cond.instanceMethod y_M_value) ∈ lw_ok := wd_t 668 (by decide +kernel) rfl
theorem wd_669 : (Jvm.Cond.selects R_M y_M_value y_M_value) ∈ lw_ok := wd_t 669 (by decide +kernel) rfl
theorem wd_670 : (Jvm.Cond.code y_M_value prog_5_method_23_code (3 : Nat) (Option.some Jvm.ClassFile.FieldType.int)) ∈ lw_ok := wd_t 670 (by decide +kernel) rfl
theorem wd_671 : (Jvm.Cond.methodLink R_L (103 : Nat) y_M_valueOf) ∈ lw_ok := wd_t 671 (by decide +kernel) rfl
theorem wd_672 : (Jvm.Cond.instanceMethod y_M_valueOf) ∈ lw_ok := wd_t 672 (by decide +kernel) rfl
theorem wd_673 : (Jvm.Cond.selects R_M y_M_valueOf y_M_valueOf) ∈ lw_ok := wd_t 673 (by decide +kernel) rfl
theorem wd_674 : (Jvm.Cond.code y_M_valueOf prog_5_method_24_code (2 : Nat) (Option.some Jvm.ClassFile.FieldType.int)) ∈ lw_ok := wd_t 674 (by decide +kernel) rfl
theorem wd_675 : (Jvm.Cond.methodLink R_L (106 : Nat) y_M_entailed) ∈ lw_ok := wd_t 675 (by decide +kernel) rfl
theorem wd_676 : (Jvm.Cond.instanceMethod y_M_entailed) ∈ lw_ok := wd_t 676 (by decide +kernel) rfl
theorem wd_677 : (Jvm.Cond.selects R_M y_M_entailed y_M_entailed) ∈ lw_ok := wd_t 677 (by decide +kernel) rfl
theorem wd_678 : (Jvm.Cond.code y_M_entailed prog_5_method_25_code (5 : Nat) (Option.some Jvm.ClassFile.FieldType.int)) ∈ lw_ok := wd_t 678 (by decide +kernel) rfl
theorem wd_679 : (Jvm.Cond.methodLink R_L (109 : Nat) y_M_fixed) ∈ lw_ok := wd_t 679 (by decide +kernel) rfl
theorem wd_680 : (Jvm.Cond.instanceMethod y_M_fixed) ∈ lw_ok := wd_t 680 (by decide +kernel) rfl
theorem wd_681 : (Jvm.Cond.selects R_M y_M_fixed y_M_fixed) ∈ lw_ok := wd_t 681 (by decide +kernel) rfl
theorem wd_682 : (Jvm.Cond.code y_M_fixed prog_5_method_26_code (6 : Nat) (Option.some Jvm.ClassFile.FieldType.int)) ∈ lw_ok := wd_t 682 (by decide +kernel) rfl
theorem wd_683 : (Jvm.Cond.methodLink R_L (112 : Nat) y_M_least) ∈ lw_ok := wd_t 683 (by decide +kernel) rfl
theorem wd_684 : (Jvm.Cond.instanceMethod y_M_least) ∈ lw_ok := wd_t 684 (by decide +kernel) rfl
theorem wd_685 : (Jvm.Cond.selects R_M y_M_least y_M_least) ∈ lw_ok := wd_t 685 (by decide +kernel) rfl
theorem wd_686 : (Jvm.Cond.code y_M_least prog_5_method_27_code (4 : Nat) (Option.some Jvm.ClassFile.FieldType.int)) ∈ lw_ok := wd_t 686 (by decide +kernel) rfl
theorem wd_687 : (Jvm.Cond.methodLink R_L (115 : Nat) y_M_assume) ∈ lw_ok := wd_t 687 (by decide +kernel) rfl
theorem wd_688 : (Jvm.Cond.instanceMethod y_M_assume) ∈ lw_ok := wd_t 688 (by decide +kernel) rfl
theorem wd_689 : (Jvm.Cond.selects R_M y_M_assume y_M_assume) ∈ lw_ok := wd_t 689 (by decide +kernel) rfl
theorem wd_690 : (Jvm.Cond.code y_M_assume prog_5_method_28_code (2 : Nat) (Option.some Jvm.ClassFile.FieldType.int)) ∈ lw_ok := wd_t 690 (by decide +kernel) rfl
theorem wd_691 : (Jvm.Cond.methodLink R_L (119 : Nat) y_M_clear) ∈ lw_ok := wd_t 691 (by decide +kernel) rfl
theorem wd_692 : (Jvm.Cond.instanceMethod y_M_clear) ∈ lw_ok := wd_t 692 (by decide +kernel) rfl
theorem wd_693 : (Jvm.Cond.selects R_M y_M_clear y_M_clear) ∈ lw_ok := wd_t 693 (by decide +kernel) rfl
theorem wd_694 : (Jvm.Cond.code y_M_clear prog_5_method_29_code (2 : Nat) (Option.some Jvm.ClassFile.FieldType.int)) ∈ lw_ok := wd_t 694 (by decide +kernel) rfl
theorem wd_695 : (Jvm.Cond.methodLink R_L (123 : Nat) y_M_attempt) ∈ lw_ok := wd_t 695 (by decide +kernel) rfl
theorem wd_696 : (Jvm.Cond.instanceMethod y_M_attempt) ∈ lw_ok := wd_t 696 (by decide +kernel) rfl
theorem wd_697 : (Jvm.Cond.selects R_M y_M_attempt y_M_attempt) ∈ lw_ok := wd_t 697 (by decide +kernel) rfl
theorem wd_698 : (Jvm.Cond.code y_M_attempt prog_5_method_30_code (1 : Nat) (Option.some Jvm.ClassFile.FieldType.int)) ∈ lw_ok := wd_t 698 (by decide +kernel) rfl
theorem wd_699 : (Jvm.Cond.methodLink R_L (126 : Nat) y_M_blame) ∈ lw_ok := wd_t 699 (by decide +kernel) rfl
theorem wd_700 : (Jvm.Cond.instanceMethod y_M_blame) ∈ lw_ok := wd_t 700 (by decide +kernel) rfl
theorem wd_701 : (Jvm.Cond.selects R_M y_M_blame y_M_blame) ∈ lw_ok := wd_t 701 (by decide +kernel) rfl
theorem wd_702 : (Jvm.Cond.code y_M_blame prog_5_method_31_code (3 : Nat) (Option.some Jvm.ClassFile.FieldType.int)) ∈ lw_ok := wd_t 702 (by decide +kernel) rfl
theorem wd_703 : (Jvm.Cond.methodLink R_L (129 : Nat) y_M_count) ∈ lw_ok := wd_t 703 (by decide +kernel) rfl
theorem wd_704 : (Jvm.Cond.instanceMethod y_M_count) ∈ lw_ok := wd_t 704 (by decide +kernel) rfl
theorem wd_705 : (Jvm.Cond.selects R_M y_M_count y_M_count) ∈ lw_ok := wd_t 705 (by decide +kernel) rfl
theorem wd_706 : (Jvm.Cond.code y_M_count prog_5_method_32_code (2 : Nat) (Option.some Jvm.ClassFile.FieldType.int)) ∈ lw_ok := wd_t 706 (by decide +kernel) rfl
theorem wd_707 : (Jvm.Cond.sameMethod "java/lang/Throwable" "java/lang/Throwable" "fillInStackTrace" "(I)Ljava/lang/Throwable;") ∈ lw_ok := wd_t 707 (by decide +kernel) rfl
theorem wd_p0 : Cond.selects R_B y_B_hasModel y_B_hasModel ∈ lw_ok := wd_s 0 (by decide +kernel) rfl
theorem wd_p1 : Cond.selects R_B y_B_modelRow y_B_modelRow ∈ lw_ok := wd_s 1 (by decide +kernel) rfl
theorem wd_p2 : Cond.selects R_S y_S_isWithout y_S_isWithout ∈ lw_ok := wd_s 2 (by decide +kernel) rfl
theorem wd_p3 : Cond.selects R_B y_B_allAssumptions y_B_allAssumptions ∈ lw_ok := wd_s 3 (by decide +kernel) rfl
theorem wd_p4 : Cond.selects R_B y_B_canAssume y_B_canAssume ∈ lw_ok := wd_s 4 (by decide +kernel) rfl
theorem wd_p6 : Cond.selects R_B y_B_widthToBuild y_B_widthToBuild ∈ lw_ok := wd_s 6 (by decide +kernel) rfl
theorem wd_p7 : Cond.selects R_B y_B_hasVariable y_B_hasVariable ∈ lw_ok := wd_s 7 (by decide +kernel) rfl
theorem wd_p8 : Cond.selects R_B y_B_commonWidth y_B_commonWidth ∈ lw_ok := wd_s 8 (by decide +kernel) rfl
theorem wd_p9 : Cond.selects R_B y_B_widthOrNone y_B_widthOrNone ∈ lw_ok := wd_s 9 (by decide +kernel) rfl
theorem wd_p10 : Cond.selects R_B y_B_hasTerm y_B_hasTerm ∈ lw_ok := wd_s 10 (by decide +kernel) rfl
theorem wd_p11 : Cond.selects R_B y_B_hasFormula y_B_hasFormula ∈ lw_ok := wd_s 11 (by decide +kernel) rfl
theorem wd_p12 : Cond.selects R_B y_B_joinedWidth y_B_joinedWidth ∈ lw_ok := wd_s 12 (by decide +kernel) rfl
theorem wd_p13 : Cond.selects R_B y_B_buildNumeric y_B_buildNumeric ∈ lw_ok := wd_s 13 (by decide +kernel) rfl
theorem wd_p14 : Cond.selects R_B y_B_buildNumber y_B_buildNumber ∈ lw_ok := wd_s 14 (by decide +kernel) rfl
theorem wd_p15 : Cond.selects R_B y_B_buildVariable y_B_buildVariable ∈ lw_ok := wd_s 15 (by decide +kernel) rfl
theorem wd_p16 : Cond.selects R_C y_C_addBit y_C_addBit ∈ lw_ok := wd_s 16 (by decide +kernel) rfl
theorem wd_p17 : Cond.selects R_B y_B_buildBitwise y_B_buildBitwise ∈ lw_ok := wd_s 17 (by decide +kernel) rfl
theorem wd_p18 : Cond.selects R_B y_B_buildArranged y_B_buildArranged ∈ lw_ok := wd_s 18 (by decide +kernel) rfl
theorem wd_p19 : Cond.selects R_B y_B_canBuildFormula y_B_canBuildFormula ∈ lw_ok := wd_s 19 (by decide +kernel) rfl
theorem wd_p20 : Cond.selects R_B y_B_buildRelation y_B_buildRelation ∈ lw_ok := wd_s 20 (by decide +kernel) rfl
theorem wd_p21 : Cond.selects R_B y_B_buildConnective y_B_buildConnective ∈ lw_ok := wd_s 21 (by decide +kernel) rfl
theorem wd_p22 : Cond.selects R_M y_M_raise y_M_raise ∈ lw_ok := wd_s 22 (by decide +kernel) rfl
theorem wd_p23 : Cond.selects R_M y_M_widthOf y_M_widthOf ∈ lw_ok := wd_s 23 (by decide +kernel) rfl
theorem wd_p24 : Cond.selects R_M y_M_alike y_M_alike ∈ lw_ok := wd_s 24 (by decide +kernel) rfl
theorem wd_p25 : Cond.selects R_M y_M_isTerm y_M_isTerm ∈ lw_ok := wd_s 25 (by decide +kernel) rfl
theorem wd_p26 : Cond.selects R_M y_M_isFormula y_M_isFormula ∈ lw_ok := wd_s 26 (by decide +kernel) rfl
theorem wd_p27 : Cond.selects R_M y_M_can y_M_can ∈ lw_ok := wd_s 27 (by decide +kernel) rfl
theorem wd_p28 : Cond.selects R_M y_M_next y_M_next ∈ lw_ok := wd_s 28 (by decide +kernel) rfl
theorem wd_p29 : Cond.selects R_M y_M_models y_M_models ∈ lw_ok := wd_s 29 (by decide +kernel) rfl
theorem wd_p30 : Cond.selects R_M y_M_raw y_M_raw ∈ lw_ok := wd_s 30 (by decide +kernel) rfl
theorem wd_p31 : Cond.selects R_M y_M_given y_M_given ∈ lw_ok := wd_s 31 (by decide +kernel) rfl
theorem wd_p32 : Cond.selects R_M y_M_truth y_M_truth ∈ lw_ok := wd_s 32 (by decide +kernel) rfl
theorem in_B : ∀ w ∈ u_ws R_B F_B 14, w ∈ lw_ok := List.forall_mem_cons.mpr ⟨wd_61, List.forall_mem_cons.mpr ⟨wd_63, List.forall_mem_cons.mpr ⟨wd_65, List.forall_mem_cons.mpr ⟨wd_67, List.forall_mem_cons.mpr ⟨wd_69, List.forall_mem_cons.mpr ⟨wd_71, List.forall_mem_cons.mpr ⟨wd_73, List.forall_mem_cons.mpr ⟨wd_75, List.forall_mem_cons.mpr ⟨wd_77, List.forall_mem_cons.mpr ⟨wd_79, List.forall_mem_cons.mpr ⟨wd_81, List.forall_mem_cons.mpr ⟨wd_83, List.forall_mem_cons.mpr ⟨wd_85, List.forall_mem_cons.mpr ⟨wd_87, fun _ h => absurd h List.not_mem_nil⟩⟩⟩⟩⟩⟩⟩⟩⟩⟩⟩⟩⟩⟩
theorem in_S : ∀ w ∈ u_ws R_S F_S 1, w ∈ lw_ok := List.forall_mem_cons.mpr ⟨wd_33, fun _ h => absurd h List.not_mem_nil⟩
theorem in_C : ∀ w ∈ u_ws R_C F_C 1, w ∈ lw_ok := List.forall_mem_cons.mpr ⟨wd_39, fun _ h => absurd h List.not_mem_nil⟩
theorem in_M : ∀ w ∈ u_ws R_M F_M 23, w ∈ lw_ok := List.forall_mem_cons.mpr ⟨wd_537, List.forall_mem_cons.mpr ⟨wd_539, List.forall_mem_cons.mpr ⟨wd_541, List.forall_mem_cons.mpr ⟨wd_543, List.forall_mem_cons.mpr ⟨wd_545, List.forall_mem_cons.mpr ⟨wd_547, List.forall_mem_cons.mpr ⟨wd_549, List.forall_mem_cons.mpr ⟨wd_551, List.forall_mem_cons.mpr ⟨wd_553, List.forall_mem_cons.mpr ⟨wd_555, List.forall_mem_cons.mpr ⟨wd_557, List.forall_mem_cons.mpr ⟨wd_559, List.forall_mem_cons.mpr ⟨wd_561, List.forall_mem_cons.mpr ⟨wd_563, List.forall_mem_cons.mpr ⟨wd_565, List.forall_mem_cons.mpr ⟨wd_567, List.forall_mem_cons.mpr ⟨wd_569, List.forall_mem_cons.mpr ⟨wd_571, List.forall_mem_cons.mpr ⟨wd_573, List.forall_mem_cons.mpr ⟨wd_575, List.forall_mem_cons.mpr ⟨wd_577, List.forall_mem_cons.mpr ⟨wd_579, List.forall_mem_cons.mpr ⟨wd_581, fun _ h => absurd h List.not_mem_nil⟩⟩⟩⟩⟩⟩⟩⟩⟩⟩⟩⟩⟩⟩⟩⟩⟩⟩⟩⟩⟩⟩⟩
end
section
/-! what each instruction is: BitSolver$Sets -/
theorem d_S_init_0 : decode b_S_init 0 = .ok (.aload_n 0, 1) := by decide +kernel
theorem d_S_init_1 : decode b_S_init 1 = .ok (.invokespecial 5, 3) := by decide +kernel
theorem d_S_init_4 : decode b_S_init 4 = .ok (.aload_n 0, 1) := by decide +kernel
theorem d_S_init_5 : decode b_S_init 5 = .ok (.iload_n 1, 1) := by decide +kernel
theorem d_S_init_6 : decode b_S_init 6 = .ok (.bipush 16, 2) := by decide +kernel
theorem d_S_init_8 : decode b_S_init 8 = .ok (.imul, 1) := by decide +kernel
theorem d_S_init_9 : decode b_S_init 9 = .ok (.newarray .long, 2) := by decide +kernel
theorem d_S_init_11 : decode b_S_init 11 = .ok (.putfield 11, 3) := by decide +kernel
theorem d_S_init_14 : decode b_S_init 14 = .ok (.return_, 1) := by decide +kernel
theorem d_S_fill_0 : decode b_S_fill 0 = .ok (.iconst 0, 1) := by decide +kernel
theorem d_S_fill_1 : decode b_S_fill 1 = .ok (.istore 4, 2) := by decide +kernel
theorem d_S_fill_3 : decode b_S_fill 3 = .ok (.iload 4, 2) := by decide +kernel
theorem d_S_fill_5 : decode b_S_fill 5 = .ok (.iload_n 2, 1) := by decide +kernel
theorem d_S_fill_6 : decode b_S_fill 6 = .ok (.bipush 16, 2) := by decide +kernel
theorem d_S_fill_8 : decode b_S_fill 8 = .ok (.imul, 1) := by decide +kernel
theorem d_S_fill_9 : decode b_S_fill 9 = .ok (.if_icmp .ge 32, 3) := by decide +kernel
theorem d_S_fill_12 : decode b_S_fill 12 = .ok (.aload_n 0, 1) := by decide +kernel
theorem d_S_fill_13 : decode b_S_fill 13 = .ok (.getfield 11, 3) := by decide +kernel
theorem d_S_fill_16 : decode b_S_fill 16 = .ok (.iload_n 1, 1) := by decide +kernel
theorem d_S_fill_17 : decode b_S_fill 17 = .ok (.bipush 16, 2) := by decide +kernel
theorem d_S_fill_19 : decode b_S_fill 19 = .ok (.imul, 1) := by decide +kernel
theorem d_S_fill_20 : decode b_S_fill 20 = .ok (.iload 4, 2) := by decide +kernel
theorem d_S_fill_22 : decode b_S_fill 22 = .ok (.iadd, 1) := by decide +kernel
theorem d_S_fill_23 : decode b_S_fill 23 = .ok (.iload_n 3, 1) := by decide +kernel
theorem d_S_fill_24 : decode b_S_fill 24 = .ok (.ifCond .eq 9, 3) := by decide +kernel
theorem d_S_fill_27 : decode b_S_fill 27 = .ok (.ldc2_w 15, 3) := by decide +kernel
theorem d_S_fill_30 : decode b_S_fill 30 = .ok (.goto 4, 3) := by decide +kernel
theorem d_S_fill_33 : decode b_S_fill 33 = .ok (.lconst 0, 1) := by decide +kernel
theorem d_S_fill_34 : decode b_S_fill 34 = .ok (.lastore, 1) := by decide +kernel
theorem d_S_fill_35 : decode b_S_fill 35 = .ok (.iinc 4 1, 3) := by decide +kernel
theorem d_S_fill_38 : decode b_S_fill 38 = .ok (.goto (-35), 3) := by decide +kernel
theorem d_S_fill_41 : decode b_S_fill 41 = .ok (.return_, 1) := by decide +kernel
theorem d_S_fillByPlace_0 : decode b_S_fillByPlace 0 = .ok (.iconst 0, 1) := by decide +kernel
theorem d_S_fillByPlace_1 : decode b_S_fillByPlace 1 = .ok (.istore_n 3, 1) := by decide +kernel
theorem d_S_fillByPlace_2 : decode b_S_fillByPlace 2 = .ok (.iload_n 3, 1) := by decide +kernel
theorem d_S_fillByPlace_3 : decode b_S_fillByPlace 3 = .ok (.bipush 16, 2) := by decide +kernel
theorem d_S_fillByPlace_5 : decode b_S_fillByPlace 5 = .ok (.if_icmp .ge 25, 3) := by decide +kernel
theorem d_S_fillByPlace_8 : decode b_S_fillByPlace 8 = .ok (.aload_n 0, 1) := by decide +kernel
theorem d_S_fillByPlace_9 : decode b_S_fillByPlace 9 = .ok (.getfield 11, 3) := by decide +kernel
theorem d_S_fillByPlace_12 : decode b_S_fillByPlace 12 = .ok (.iload_n 1, 1) := by decide +kernel
theorem d_S_fillByPlace_13 : decode b_S_fillByPlace 13 = .ok (.bipush 16, 2) := by decide +kernel
theorem d_S_fillByPlace_15 : decode b_S_fillByPlace 15 = .ok (.imul, 1) := by decide +kernel
theorem d_S_fillByPlace_16 : decode b_S_fillByPlace 16 = .ok (.iload_n 3, 1) := by decide +kernel
theorem d_S_fillByPlace_17 : decode b_S_fillByPlace 17 = .ok (.iadd, 1) := by decide +kernel
theorem d_S_fillByPlace_18 : decode b_S_fillByPlace 18 = .ok (.iload_n 3, 1) := by decide +kernel
theorem d_S_fillByPlace_19 : decode b_S_fillByPlace 19 = .ok (.iload_n 2, 1) := by decide +kernel
theorem d_S_fillByPlace_20 : decode b_S_fillByPlace 20 = .ok (.invokestatic 17, 3) := by decide +kernel
theorem d_S_fillByPlace_23 : decode b_S_fillByPlace 23 = .ok (.lastore, 1) := by decide +kernel
theorem d_S_fillByPlace_24 : decode b_S_fillByPlace 24 = .ok (.iinc 3 1, 3) := by decide +kernel
theorem d_S_fillByPlace_27 : decode b_S_fillByPlace 27 = .ok (.goto (-25), 3) := by decide +kernel
theorem d_S_fillByPlace_30 : decode b_S_fillByPlace 30 = .ok (.return_, 1) := by decide +kernel
theorem d_S_wordByPlace_0 : decode b_S_wordByPlace 0 = .ok (.iload_n 1, 1) := by decide +kernel
theorem d_S_wordByPlace_1 : decode b_S_wordByPlace 1 = .ok (.bipush 6, 2) := by decide +kernel
theorem d_S_wordByPlace_3 : decode b_S_wordByPlace 3 = .ok (.if_icmp .ge 9, 3) := by decide +kernel
theorem d_S_wordByPlace_6 : decode b_S_wordByPlace 6 = .ok (.getstatic 21, 3) := by decide +kernel
theorem d_S_wordByPlace_9 : decode b_S_wordByPlace 9 = .ok (.iload_n 1, 1) := by decide +kernel
theorem d_S_wordByPlace_10 : decode b_S_wordByPlace 10 = .ok (.laload, 1) := by decide +kernel
theorem d_S_wordByPlace_11 : decode b_S_wordByPlace 11 = .ok (.lreturn, 1) := by decide +kernel
theorem d_S_wordByPlace_12 : decode b_S_wordByPlace 12 = .ok (.iload_n 0, 1) := by decide +kernel
theorem d_S_wordByPlace_13 : decode b_S_wordByPlace 13 = .ok (.iload_n 1, 1) := by decide +kernel
theorem d_S_wordByPlace_14 : decode b_S_wordByPlace 14 = .ok (.bipush 6, 2) := by decide +kernel
theorem d_S_wordByPlace_16 : decode b_S_wordByPlace 16 = .ok (.isub, 1) := by decide +kernel
theorem d_S_wordByPlace_17 : decode b_S_wordByPlace 17 = .ok (.ishr, 1) := by decide +kernel
theorem d_S_wordByPlace_18 : decode b_S_wordByPlace 18 = .ok (.iconst 1, 1) := by decide +kernel
theorem d_S_wordByPlace_19 : decode b_S_wordByPlace 19 = .ok (.iand, 1) := by decide +kernel
theorem d_S_wordByPlace_20 : decode b_S_wordByPlace 20 = .ok (.iconst 1, 1) := by decide +kernel
theorem d_S_wordByPlace_21 : decode b_S_wordByPlace 21 = .ok (.if_icmp .ne 9, 3) := by decide +kernel
theorem d_S_wordByPlace_24 : decode b_S_wordByPlace 24 = .ok (.ldc2_w 15, 3) := by decide +kernel
theorem d_S_wordByPlace_27 : decode b_S_wordByPlace 27 = .ok (.goto 4, 3) := by decide +kernel
theorem d_S_wordByPlace_30 : decode b_S_wordByPlace 30 = .ok (.lconst 0, 1) := by decide +kernel
theorem d_S_wordByPlace_31 : decode b_S_wordByPlace 31 = .ok (.lreturn, 1) := by decide +kernel
theorem d_S_copy_0 : decode b_S_copy 0 = .ok (.iconst 0, 1) := by decide +kernel
theorem d_S_copy_1 : decode b_S_copy 1 = .ok (.istore 4, 2) := by decide +kernel
theorem d_S_copy_3 : decode b_S_copy 3 = .ok (.iload 4, 2) := by decide +kernel
theorem d_S_copy_5 : decode b_S_copy 5 = .ok (.iload_n 3, 1) := by decide +kernel
theorem d_S_copy_6 : decode b_S_copy 6 = .ok (.bipush 16, 2) := by decide +kernel
theorem d_S_copy_8 : decode b_S_copy 8 = .ok (.imul, 1) := by decide +kernel
theorem d_S_copy_9 : decode b_S_copy 9 = .ok (.if_icmp .ge 33, 3) := by decide +kernel
theorem d_S_copy_12 : decode b_S_copy 12 = .ok (.aload_n 0, 1) := by decide +kernel
theorem d_S_copy_13 : decode b_S_copy 13 = .ok (.getfield 11, 3) := by decide +kernel
theorem d_S_copy_16 : decode b_S_copy 16 = .ok (.iload_n 1, 1) := by decide +kernel
theorem d_S_copy_17 : decode b_S_copy 17 = .ok (.bipush 16, 2) := by decide +kernel
theorem d_S_copy_19 : decode b_S_copy 19 = .ok (.imul, 1) := by decide +kernel
theorem d_S_copy_20 : decode b_S_copy 20 = .ok (.iload 4, 2) := by decide +kernel
theorem d_S_copy_22 : decode b_S_copy 22 = .ok (.iadd, 1) := by decide +kernel
theorem d_S_copy_23 : decode b_S_copy 23 = .ok (.aload_n 0, 1) := by decide +kernel
theorem d_S_copy_24 : decode b_S_copy 24 = .ok (.getfield 11, 3) := by decide +kernel
theorem d_S_copy_27 : decode b_S_copy 27 = .ok (.iload_n 2, 1) := by decide +kernel
theorem d_S_copy_28 : decode b_S_copy 28 = .ok (.bipush 16, 2) := by decide +kernel
theorem d_S_copy_30 : decode b_S_copy 30 = .ok (.imul, 1) := by decide +kernel
theorem d_S_copy_31 : decode b_S_copy 31 = .ok (.iload 4, 2) := by decide +kernel
theorem d_S_copy_33 : decode b_S_copy 33 = .ok (.iadd, 1) := by decide +kernel
theorem d_S_copy_34 : decode b_S_copy 34 = .ok (.laload, 1) := by decide +kernel
theorem d_S_copy_35 : decode b_S_copy 35 = .ok (.lastore, 1) := by decide +kernel
theorem d_S_copy_36 : decode b_S_copy 36 = .ok (.iinc 4 1, 3) := by decide +kernel
theorem d_S_copy_39 : decode b_S_copy 39 = .ok (.goto (-36), 3) := by decide +kernel
theorem d_S_copy_42 : decode b_S_copy 42 = .ok (.return_, 1) := by decide +kernel
theorem d_S_turn_0 : decode b_S_turn 0 = .ok (.iconst 0, 1) := by decide +kernel
theorem d_S_turn_1 : decode b_S_turn 1 = .ok (.istore 4, 2) := by decide +kernel
theorem d_S_turn_3 : decode b_S_turn 3 = .ok (.iload 4, 2) := by decide +kernel
theorem d_S_turn_5 : decode b_S_turn 5 = .ok (.iload_n 3, 1) := by decide +kernel
theorem d_S_turn_6 : decode b_S_turn 6 = .ok (.bipush 16, 2) := by decide +kernel
theorem d_S_turn_8 : decode b_S_turn 8 = .ok (.imul, 1) := by decide +kernel
theorem d_S_turn_9 : decode b_S_turn 9 = .ok (.if_icmp .ge 37, 3) := by decide +kernel
theorem d_S_turn_12 : decode b_S_turn 12 = .ok (.aload_n 0, 1) := by decide +kernel
theorem d_S_turn_13 : decode b_S_turn 13 = .ok (.getfield 11, 3) := by decide +kernel
theorem d_S_turn_16 : decode b_S_turn 16 = .ok (.iload_n 1, 1) := by decide +kernel
theorem d_S_turn_17 : decode b_S_turn 17 = .ok (.bipush 16, 2) := by decide +kernel
theorem d_S_turn_19 : decode b_S_turn 19 = .ok (.imul, 1) := by decide +kernel
theorem d_S_turn_20 : decode b_S_turn 20 = .ok (.iload 4, 2) := by decide +kernel
theorem d_S_turn_22 : decode b_S_turn 22 = .ok (.iadd, 1) := by decide +kernel
theorem d_S_turn_23 : decode b_S_turn 23 = .ok (.aload_n 0, 1) := by decide +kernel
theorem d_S_turn_24 : decode b_S_turn 24 = .ok (.getfield 11, 3) := by decide +kernel
theorem d_S_turn_27 : decode b_S_turn 27 = .ok (.iload_n 2, 1) := by decide +kernel
theorem d_S_turn_28 : decode b_S_turn 28 = .ok (.bipush 16, 2) := by decide +kernel
theorem d_S_turn_30 : decode b_S_turn 30 = .ok (.imul, 1) := by decide +kernel
theorem d_S_turn_31 : decode b_S_turn 31 = .ok (.iload 4, 2) := by decide +kernel
theorem d_S_turn_33 : decode b_S_turn 33 = .ok (.iadd, 1) := by decide +kernel
theorem d_S_turn_34 : decode b_S_turn 34 = .ok (.laload, 1) := by decide +kernel
theorem d_S_turn_35 : decode b_S_turn 35 = .ok (.ldc2_w 15, 3) := by decide +kernel
theorem d_S_turn_38 : decode b_S_turn 38 = .ok (.lxor, 1) := by decide +kernel
theorem d_S_turn_39 : decode b_S_turn 39 = .ok (.lastore, 1) := by decide +kernel
theorem d_S_turn_40 : decode b_S_turn 40 = .ok (.iinc 4 1, 3) := by decide +kernel
theorem d_S_turn_43 : decode b_S_turn 43 = .ok (.goto (-40), 3) := by decide +kernel
theorem d_S_turn_46 : decode b_S_turn 46 = .ok (.return_, 1) := by decide +kernel
theorem d_S_and_0 : decode b_S_and 0 = .ok (.iconst 0, 1) := by decide +kernel
theorem d_S_and_1 : decode b_S_and 1 = .ok (.istore 5, 2) := by decide +kernel
theorem d_S_and_3 : decode b_S_and 3 = .ok (.iload 5, 2) := by decide +kernel
theorem d_S_and_5 : decode b_S_and 5 = .ok (.iload 4, 2) := by decide +kernel
theorem d_S_and_7 : decode b_S_and 7 = .ok (.bipush 16, 2) := by decide +kernel
theorem d_S_and_9 : decode b_S_and 9 = .ok (.imul, 1) := by decide +kernel
theorem d_S_and_10 : decode b_S_and 10 = .ok (.if_icmp .ge 46, 3) := by decide +kernel
theorem d_S_and_13 : decode b_S_and 13 = .ok (.aload_n 0, 1) := by decide +kernel
theorem d_S_and_14 : decode b_S_and 14 = .ok (.getfield 11, 3) := by decide +kernel
theorem d_S_and_17 : decode b_S_and 17 = .ok (.iload_n 1, 1) := by decide +kernel
theorem d_S_and_18 : decode b_S_and 18 = .ok (.bipush 16, 2) := by decide +kernel
theorem d_S_and_20 : decode b_S_and 20 = .ok (.imul, 1) := by decide +kernel
theorem d_S_and_21 : decode b_S_and 21 = .ok (.iload 5, 2) := by decide +kernel
theorem d_S_and_23 : decode b_S_and 23 = .ok (.iadd, 1) := by decide +kernel
theorem d_S_and_24 : decode b_S_and 24 = .ok (.aload_n 0, 1) := by decide +kernel
theorem d_S_and_25 : decode b_S_and 25 = .ok (.getfield 11, 3) := by decide +kernel
theorem d_S_and_28 : decode b_S_and 28 = .ok (.iload_n 2, 1) := by decide +kernel
theorem d_S_and_29 : decode b_S_and 29 = .ok (.bipush 16, 2) := by decide +kernel
theorem d_S_and_31 : decode b_S_and 31 = .ok (.imul, 1) := by decide +kernel
theorem d_S_and_32 : decode b_S_and 32 = .ok (.iload 5, 2) := by decide +kernel
theorem d_S_and_34 : decode b_S_and 34 = .ok (.iadd, 1) := by decide +kernel
theorem d_S_and_35 : decode b_S_and 35 = .ok (.laload, 1) := by decide +kernel
theorem d_S_and_36 : decode b_S_and 36 = .ok (.aload_n 0, 1) := by decide +kernel
theorem d_S_and_37 : decode b_S_and 37 = .ok (.getfield 11, 3) := by decide +kernel
theorem d_S_and_40 : decode b_S_and 40 = .ok (.iload_n 3, 1) := by decide +kernel
theorem d_S_and_41 : decode b_S_and 41 = .ok (.bipush 16, 2) := by decide +kernel
theorem d_S_and_43 : decode b_S_and 43 = .ok (.imul, 1) := by decide +kernel
theorem d_S_and_44 : decode b_S_and 44 = .ok (.iload 5, 2) := by decide +kernel
theorem d_S_and_46 : decode b_S_and 46 = .ok (.iadd, 1) := by decide +kernel
theorem d_S_and_47 : decode b_S_and 47 = .ok (.laload, 1) := by decide +kernel
theorem d_S_and_48 : decode b_S_and 48 = .ok (.land, 1) := by decide +kernel
theorem d_S_and_49 : decode b_S_and 49 = .ok (.lastore, 1) := by decide +kernel
theorem d_S_and_50 : decode b_S_and 50 = .ok (.iinc 5 1, 3) := by decide +kernel
theorem d_S_and_53 : decode b_S_and 53 = .ok (.goto (-50), 3) := by decide +kernel
theorem d_S_and_56 : decode b_S_and 56 = .ok (.return_, 1) := by decide +kernel
theorem d_S_or_0 : decode b_S_or 0 = .ok (.iconst 0, 1) := by decide +kernel
theorem d_S_or_1 : decode b_S_or 1 = .ok (.istore 5, 2) := by decide +kernel
theorem d_S_or_3 : decode b_S_or 3 = .ok (.iload 5, 2) := by decide +kernel
theorem d_S_or_5 : decode b_S_or 5 = .ok (.iload 4, 2) := by decide +kernel
theorem d_S_or_7 : decode b_S_or 7 = .ok (.bipush 16, 2) := by decide +kernel
theorem d_S_or_9 : decode b_S_or 9 = .ok (.imul, 1) := by decide +kernel
theorem d_S_or_10 : decode b_S_or 10 = .ok (.if_icmp .ge 46, 3) := by decide +kernel
theorem d_S_or_13 : decode b_S_or 13 = .ok (.aload_n 0, 1) := by decide +kernel
theorem d_S_or_14 : decode b_S_or 14 = .ok (.getfield 11, 3) := by decide +kernel
theorem d_S_or_17 : decode b_S_or 17 = .ok (.iload_n 1, 1) := by decide +kernel
theorem d_S_or_18 : decode b_S_or 18 = .ok (.bipush 16, 2) := by decide +kernel
theorem d_S_or_20 : decode b_S_or 20 = .ok (.imul, 1) := by decide +kernel
theorem d_S_or_21 : decode b_S_or 21 = .ok (.iload 5, 2) := by decide +kernel
theorem d_S_or_23 : decode b_S_or 23 = .ok (.iadd, 1) := by decide +kernel
theorem d_S_or_24 : decode b_S_or 24 = .ok (.aload_n 0, 1) := by decide +kernel
theorem d_S_or_25 : decode b_S_or 25 = .ok (.getfield 11, 3) := by decide +kernel
theorem d_S_or_28 : decode b_S_or 28 = .ok (.iload_n 2, 1) := by decide +kernel
theorem d_S_or_29 : decode b_S_or 29 = .ok (.bipush 16, 2) := by decide +kernel
theorem d_S_or_31 : decode b_S_or 31 = .ok (.imul, 1) := by decide +kernel
theorem d_S_or_32 : decode b_S_or 32 = .ok (.iload 5, 2) := by decide +kernel
theorem d_S_or_34 : decode b_S_or 34 = .ok (.iadd, 1) := by decide +kernel
theorem d_S_or_35 : decode b_S_or 35 = .ok (.laload, 1) := by decide +kernel
theorem d_S_or_36 : decode b_S_or 36 = .ok (.aload_n 0, 1) := by decide +kernel
theorem d_S_or_37 : decode b_S_or 37 = .ok (.getfield 11, 3) := by decide +kernel
theorem d_S_or_40 : decode b_S_or 40 = .ok (.iload_n 3, 1) := by decide +kernel
theorem d_S_or_41 : decode b_S_or 41 = .ok (.bipush 16, 2) := by decide +kernel
theorem d_S_or_43 : decode b_S_or 43 = .ok (.imul, 1) := by decide +kernel
theorem d_S_or_44 : decode b_S_or 44 = .ok (.iload 5, 2) := by decide +kernel
theorem d_S_or_46 : decode b_S_or 46 = .ok (.iadd, 1) := by decide +kernel
theorem d_S_or_47 : decode b_S_or 47 = .ok (.laload, 1) := by decide +kernel
theorem d_S_or_48 : decode b_S_or 48 = .ok (.lor, 1) := by decide +kernel
theorem d_S_or_49 : decode b_S_or 49 = .ok (.lastore, 1) := by decide +kernel
theorem d_S_or_50 : decode b_S_or 50 = .ok (.iinc 5 1, 3) := by decide +kernel
theorem d_S_or_53 : decode b_S_or 53 = .ok (.goto (-50), 3) := by decide +kernel
theorem d_S_or_56 : decode b_S_or 56 = .ok (.return_, 1) := by decide +kernel
theorem d_S_exclusive_0 : decode b_S_exclusive 0 = .ok (.iconst 0, 1) := by decide +kernel
theorem d_S_exclusive_1 : decode b_S_exclusive 1 = .ok (.istore 5, 2) := by decide +kernel
theorem d_S_exclusive_3 : decode b_S_exclusive 3 = .ok (.iload 5, 2) := by decide +kernel
theorem d_S_exclusive_5 : decode b_S_exclusive 5 = .ok (.iload 4, 2) := by decide +kernel
theorem d_S_exclusive_7 : decode b_S_exclusive 7 = .ok (.bipush 16, 2) := by decide +kernel
theorem d_S_exclusive_9 : decode b_S_exclusive 9 = .ok (.imul, 1) := by decide +kernel
theorem d_S_exclusive_10 : decode b_S_exclusive 10 = .ok (.if_icmp .ge 46, 3) := by decide +kernel
theorem d_S_exclusive_13 : decode b_S_exclusive 13 = .ok (.aload_n 0, 1) := by decide +kernel
theorem d_S_exclusive_14 : decode b_S_exclusive 14 = .ok (.getfield 11, 3) := by decide +kernel
theorem d_S_exclusive_17 : decode b_S_exclusive 17 = .ok (.iload_n 1, 1) := by decide +kernel
theorem d_S_exclusive_18 : decode b_S_exclusive 18 = .ok (.bipush 16, 2) := by decide +kernel
theorem d_S_exclusive_20 : decode b_S_exclusive 20 = .ok (.imul, 1) := by decide +kernel
theorem d_S_exclusive_21 : decode b_S_exclusive 21 = .ok (.iload 5, 2) := by decide +kernel
theorem d_S_exclusive_23 : decode b_S_exclusive 23 = .ok (.iadd, 1) := by decide +kernel
theorem d_S_exclusive_24 : decode b_S_exclusive 24 = .ok (.aload_n 0, 1) := by decide +kernel
theorem d_S_exclusive_25 : decode b_S_exclusive 25 = .ok (.getfield 11, 3) := by decide +kernel
theorem d_S_exclusive_28 : decode b_S_exclusive 28 = .ok (.iload_n 2, 1) := by decide +kernel
theorem d_S_exclusive_29 : decode b_S_exclusive 29 = .ok (.bipush 16, 2) := by decide +kernel
theorem d_S_exclusive_31 : decode b_S_exclusive 31 = .ok (.imul, 1) := by decide +kernel
theorem d_S_exclusive_32 : decode b_S_exclusive 32 = .ok (.iload 5, 2) := by decide +kernel
theorem d_S_exclusive_34 : decode b_S_exclusive 34 = .ok (.iadd, 1) := by decide +kernel
theorem d_S_exclusive_35 : decode b_S_exclusive 35 = .ok (.laload, 1) := by decide +kernel
theorem d_S_exclusive_36 : decode b_S_exclusive 36 = .ok (.aload_n 0, 1) := by decide +kernel
theorem d_S_exclusive_37 : decode b_S_exclusive 37 = .ok (.getfield 11, 3) := by decide +kernel
theorem d_S_exclusive_40 : decode b_S_exclusive 40 = .ok (.iload_n 3, 1) := by decide +kernel
theorem d_S_exclusive_41 : decode b_S_exclusive 41 = .ok (.bipush 16, 2) := by decide +kernel
theorem d_S_exclusive_43 : decode b_S_exclusive 43 = .ok (.imul, 1) := by decide +kernel
theorem d_S_exclusive_44 : decode b_S_exclusive 44 = .ok (.iload 5, 2) := by decide +kernel
theorem d_S_exclusive_46 : decode b_S_exclusive 46 = .ok (.iadd, 1) := by decide +kernel
theorem d_S_exclusive_47 : decode b_S_exclusive 47 = .ok (.laload, 1) := by decide +kernel
theorem d_S_exclusive_48 : decode b_S_exclusive 48 = .ok (.lxor, 1) := by decide +kernel
theorem d_S_exclusive_49 : decode b_S_exclusive 49 = .ok (.lastore, 1) := by decide +kernel
theorem d_S_exclusive_50 : decode b_S_exclusive 50 = .ok (.iinc 5 1, 3) := by decide +kernel
theorem d_S_exclusive_53 : decode b_S_exclusive 53 = .ok (.goto (-50), 3) := by decide +kernel
theorem d_S_exclusive_56 : decode b_S_exclusive 56 = .ok (.return_, 1) := by decide +kernel
theorem d_S_choose_0 : decode b_S_choose 0 = .ok (.iconst 0, 1) := by decide +kernel
theorem d_S_choose_1 : decode b_S_choose 1 = .ok (.istore 5, 2) := by decide +kernel
theorem d_S_choose_3 : decode b_S_choose 3 = .ok (.iload 5, 2) := by decide +kernel
theorem d_S_choose_5 : decode b_S_choose 5 = .ok (.bipush 16, 2) := by decide +kernel
theorem d_S_choose_7 : decode b_S_choose 7 = .ok (.if_icmp .ge 71, 3) := by decide +kernel
theorem d_S_choose_10 : decode b_S_choose 10 = .ok (.aload_n 0, 1) := by decide +kernel
theorem d_S_choose_11 : decode b_S_choose 11 = .ok (.getfield 11, 3) := by decide +kernel
theorem d_S_choose_14 : decode b_S_choose 14 = .ok (.iload_n 2, 1) := by decide +kernel
theorem d_S_choose_15 : decode b_S_choose 15 = .ok (.bipush 16, 2) := by decide +kernel
theorem d_S_choose_17 : decode b_S_choose 17 = .ok (.imul, 1) := by decide +kernel
theorem d_S_choose_18 : decode b_S_choose 18 = .ok (.iload 5, 2) := by decide +kernel
theorem d_S_choose_20 : decode b_S_choose 20 = .ok (.iadd, 1) := by decide +kernel
theorem d_S_choose_21 : decode b_S_choose 21 = .ok (.laload, 1) := by decide +kernel
theorem d_S_choose_22 : decode b_S_choose 22 = .ok (.lstore 6, 2) := by decide +kernel
theorem d_S_choose_24 : decode b_S_choose 24 = .ok (.aload_n 0, 1) := by decide +kernel
theorem d_S_choose_25 : decode b_S_choose 25 = .ok (.getfield 11, 3) := by decide +kernel
theorem d_S_choose_28 : decode b_S_choose 28 = .ok (.iload_n 1, 1) := by decide +kernel
theorem d_S_choose_29 : decode b_S_choose 29 = .ok (.bipush 16, 2) := by decide +kernel
theorem d_S_choose_31 : decode b_S_choose 31 = .ok (.imul, 1) := by decide +kernel
theorem d_S_choose_32 : decode b_S_choose 32 = .ok (.iload 5, 2) := by decide +kernel
theorem d_S_choose_34 : decode b_S_choose 34 = .ok (.iadd, 1) := by decide +kernel
theorem d_S_choose_35 : decode b_S_choose 35 = .ok (.lload 6, 2) := by decide +kernel
theorem d_S_choose_37 : decode b_S_choose 37 = .ok (.aload_n 0, 1) := by decide +kernel
theorem d_S_choose_38 : decode b_S_choose 38 = .ok (.getfield 11, 3) := by decide +kernel
theorem d_S_choose_41 : decode b_S_choose 41 = .ok (.iload_n 3, 1) := by decide +kernel
theorem d_S_choose_42 : decode b_S_choose 42 = .ok (.bipush 16, 2) := by decide +kernel
theorem d_S_choose_44 : decode b_S_choose 44 = .ok (.imul, 1) := by decide +kernel
theorem d_S_choose_45 : decode b_S_choose 45 = .ok (.iload 5, 2) := by decide +kernel
theorem d_S_choose_47 : decode b_S_choose 47 = .ok (.iadd, 1) := by decide +kernel
theorem d_S_choose_48 : decode b_S_choose 48 = .ok (.laload, 1) := by decide +kernel
theorem d_S_choose_49 : decode b_S_choose 49 = .ok (.land, 1) := by decide +kernel
theorem d_S_choose_50 : decode b_S_choose 50 = .ok (.lload 6, 2) := by decide +kernel
theorem d_S_choose_52 : decode b_S_choose 52 = .ok (.ldc2_w 15, 3) := by decide +kernel
theorem d_S_choose_55 : decode b_S_choose 55 = .ok (.lxor, 1) := by decide +kernel
theorem d_S_choose_56 : decode b_S_choose 56 = .ok (.aload_n 0, 1) := by decide +kernel
theorem d_S_choose_57 : decode b_S_choose 57 = .ok (.getfield 11, 3) := by decide +kernel
theorem d_S_choose_60 : decode b_S_choose 60 = .ok (.iload 4, 2) := by decide +kernel
theorem d_S_choose_62 : decode b_S_choose 62 = .ok (.bipush 16, 2) := by decide +kernel
theorem d_S_choose_64 : decode b_S_choose 64 = .ok (.imul, 1) := by decide +kernel
theorem d_S_choose_65 : decode b_S_choose 65 = .ok (.iload 5, 2) := by decide +kernel
theorem d_S_choose_67 : decode b_S_choose 67 = .ok (.iadd, 1) := by decide +kernel
theorem d_S_choose_68 : decode b_S_choose 68 = .ok (.laload, 1) := by decide +kernel
theorem d_S_choose_69 : decode b_S_choose 69 = .ok (.land, 1) := by decide +kernel
theorem d_S_choose_70 : decode b_S_choose 70 = .ok (.lor, 1) := by decide +kernel
theorem d_S_choose_71 : decode b_S_choose 71 = .ok (.lastore, 1) := by decide +kernel
theorem d_S_choose_72 : decode b_S_choose 72 = .ok (.iinc 5 1, 3) := by decide +kernel
theorem d_S_choose_75 : decode b_S_choose 75 = .ok (.goto (-72), 3) := by decide +kernel
theorem d_S_choose_78 : decode b_S_choose 78 = .ok (.return_, 1) := by decide +kernel
theorem d_S_remove_0 : decode b_S_remove 0 = .ok (.iconst 0, 1) := by decide +kernel
theorem d_S_remove_1 : decode b_S_remove 1 = .ok (.istore_n 3, 1) := by decide +kernel
theorem d_S_remove_2 : decode b_S_remove 2 = .ok (.iload_n 3, 1) := by decide +kernel
theorem d_S_remove_3 : decode b_S_remove 3 = .ok (.bipush 16, 2) := by decide +kernel
theorem d_S_remove_5 : decode b_S_remove 5 = .ok (.if_icmp .ge 47, 3) := by decide +kernel
theorem d_S_remove_8 : decode b_S_remove 8 = .ok (.aload_n 0, 1) := by decide +kernel
theorem d_S_remove_9 : decode b_S_remove 9 = .ok (.getfield 11, 3) := by decide +kernel
theorem d_S_remove_12 : decode b_S_remove 12 = .ok (.iload_n 1, 1) := by decide +kernel
theorem d_S_remove_13 : decode b_S_remove 13 = .ok (.bipush 16, 2) := by decide +kernel
theorem d_S_remove_15 : decode b_S_remove 15 = .ok (.imul, 1) := by decide +kernel
theorem d_S_remove_16 : decode b_S_remove 16 = .ok (.iload_n 3, 1) := by decide +kernel
theorem d_S_remove_17 : decode b_S_remove 17 = .ok (.iadd, 1) := by decide +kernel
theorem d_S_remove_18 : decode b_S_remove 18 = .ok (.aload_n 0, 1) := by decide +kernel
theorem d_S_remove_19 : decode b_S_remove 19 = .ok (.getfield 11, 3) := by decide +kernel
theorem d_S_remove_22 : decode b_S_remove 22 = .ok (.iload_n 1, 1) := by decide +kernel
theorem d_S_remove_23 : decode b_S_remove 23 = .ok (.bipush 16, 2) := by decide +kernel
theorem d_S_remove_25 : decode b_S_remove 25 = .ok (.imul, 1) := by decide +kernel
theorem d_S_remove_26 : decode b_S_remove 26 = .ok (.iload_n 3, 1) := by decide +kernel
theorem d_S_remove_27 : decode b_S_remove 27 = .ok (.iadd, 1) := by decide +kernel
theorem d_S_remove_28 : decode b_S_remove 28 = .ok (.laload, 1) := by decide +kernel
theorem d_S_remove_29 : decode b_S_remove 29 = .ok (.aload_n 0, 1) := by decide +kernel
theorem d_S_remove_30 : decode b_S_remove 30 = .ok (.getfield 11, 3) := by decide +kernel
theorem d_S_remove_33 : decode b_S_remove 33 = .ok (.iload_n 2, 1) := by decide +kernel
theorem d_S_remove_34 : decode b_S_remove 34 = .ok (.bipush 16, 2) := by decide +kernel
theorem d_S_remove_36 : decode b_S_remove 36 = .ok (.imul, 1) := by decide +kernel
theorem d_S_remove_37 : decode b_S_remove 37 = .ok (.iload_n 3, 1) := by decide +kernel
theorem d_S_remove_38 : decode b_S_remove 38 = .ok (.iadd, 1) := by decide +kernel
theorem d_S_remove_39 : decode b_S_remove 39 = .ok (.laload, 1) := by decide +kernel
theorem d_S_remove_40 : decode b_S_remove 40 = .ok (.ldc2_w 15, 3) := by decide +kernel
theorem d_S_remove_43 : decode b_S_remove 43 = .ok (.lxor, 1) := by decide +kernel
theorem d_S_remove_44 : decode b_S_remove 44 = .ok (.land, 1) := by decide +kernel
theorem d_S_remove_45 : decode b_S_remove 45 = .ok (.lastore, 1) := by decide +kernel
theorem d_S_remove_46 : decode b_S_remove 46 = .ok (.iinc 3 1, 3) := by decide +kernel
theorem d_S_remove_49 : decode b_S_remove 49 = .ok (.goto (-47), 3) := by decide +kernel
theorem d_S_remove_52 : decode b_S_remove 52 = .ok (.return_, 1) := by decide +kernel
theorem d_S_isEmpty_0 : decode b_S_isEmpty 0 = .ok (.aload_n 0, 1) := by decide +kernel
theorem d_S_isEmpty_1 : decode b_S_isEmpty 1 = .ok (.iload_n 1, 1) := by decide +kernel
theorem d_S_isEmpty_2 : decode b_S_isEmpty 2 = .ok (.iload_n 1, 1) := by decide +kernel
theorem d_S_isEmpty_3 : decode b_S_isEmpty 3 = .ok (.invokevirtual 24, 3) := by decide +kernel
theorem d_S_isEmpty_6 : decode b_S_isEmpty 6 = .ok (.ireturn, 1) := by decide +kernel
theorem d_S_meets_0 : decode b_S_meets 0 = .ok (.aload_n 0, 1) := by decide +kernel
theorem d_S_meets_1 : decode b_S_meets 1 = .ok (.iload_n 1, 1) := by decide +kernel
theorem d_S_meets_2 : decode b_S_meets 2 = .ok (.iload_n 2, 1) := by decide +kernel
theorem d_S_meets_3 : decode b_S_meets 3 = .ok (.invokevirtual 24, 3) := by decide +kernel
theorem d_S_meets_6 : decode b_S_meets 6 = .ok (.ifCond .ne 7, 3) := by decide +kernel
theorem d_S_meets_9 : decode b_S_meets 9 = .ok (.iconst 1, 1) := by decide +kernel
theorem d_S_meets_10 : decode b_S_meets 10 = .ok (.goto 4, 3) := by decide +kernel
theorem d_S_meets_13 : decode b_S_meets 13 = .ok (.iconst 0, 1) := by decide +kernel
theorem d_S_meets_14 : decode b_S_meets 14 = .ok (.ireturn, 1) := by decide +kernel
theorem d_S_isWithout_0 : decode b_S_isWithout 0 = .ok (.iconst 0, 1) := by decide +kernel
theorem d_S_isWithout_1 : decode b_S_isWithout 1 = .ok (.istore_n 3, 1) := by decide +kernel
theorem d_S_isWithout_2 : decode b_S_isWithout 2 = .ok (.iload_n 3, 1) := by decide +kernel
theorem d_S_isWithout_3 : decode b_S_isWithout 3 = .ok (.bipush 16, 2) := by decide +kernel
theorem d_S_isWithout_5 : decode b_S_isWithout 5 = .ok (.if_icmp .ge 39, 3) := by decide +kernel
theorem d_S_isWithout_8 : decode b_S_isWithout 8 = .ok (.aload_n 0, 1) := by decide +kernel
theorem d_S_isWithout_9 : decode b_S_isWithout 9 = .ok (.getfield 11, 3) := by decide +kernel
theorem d_S_isWithout_12 : decode b_S_isWithout 12 = .ok (.iload_n 1, 1) := by decide +kernel
theorem d_S_isWithout_13 : decode b_S_isWithout 13 = .ok (.bipush 16, 2) := by decide +kernel
theorem d_S_isWithout_15 : decode b_S_isWithout 15 = .ok (.imul, 1) := by decide +kernel
theorem d_S_isWithout_16 : decode b_S_isWithout 16 = .ok (.iload_n 3, 1) := by decide +kernel
theorem d_S_isWithout_17 : decode b_S_isWithout 17 = .ok (.iadd, 1) := by decide +kernel
theorem d_S_isWithout_18 : decode b_S_isWithout 18 = .ok (.laload, 1) := by decide +kernel
theorem d_S_isWithout_19 : decode b_S_isWithout 19 = .ok (.aload_n 0, 1) := by decide +kernel
theorem d_S_isWithout_20 : decode b_S_isWithout 20 = .ok (.getfield 11, 3) := by decide +kernel
theorem d_S_isWithout_23 : decode b_S_isWithout 23 = .ok (.iload_n 2, 1) := by decide +kernel
theorem d_S_isWithout_24 : decode b_S_isWithout 24 = .ok (.bipush 16, 2) := by decide +kernel
theorem d_S_isWithout_26 : decode b_S_isWithout 26 = .ok (.imul, 1) := by decide +kernel
theorem d_S_isWithout_27 : decode b_S_isWithout 27 = .ok (.iload_n 3, 1) := by decide +kernel
theorem d_S_isWithout_28 : decode b_S_isWithout 28 = .ok (.iadd, 1) := by decide +kernel
theorem d_S_isWithout_29 : decode b_S_isWithout 29 = .ok (.laload, 1) := by decide +kernel
theorem d_S_isWithout_30 : decode b_S_isWithout 30 = .ok (.land, 1) := by decide +kernel
theorem d_S_isWithout_31 : decode b_S_isWithout 31 = .ok (.lconst 0, 1) := by decide +kernel
theorem d_S_isWithout_32 : decode b_S_isWithout 32 = .ok (.lcmp, 1) := by decide +kernel
theorem d_S_isWithout_33 : decode b_S_isWithout 33 = .ok (.ifCond .eq 5, 3) := by decide +kernel
theorem d_S_isWithout_36 : decode b_S_isWithout 36 = .ok (.iconst 0, 1) := by decide +kernel
theorem d_S_isWithout_37 : decode b_S_isWithout 37 = .ok (.ireturn, 1) := by decide +kernel
theorem d_S_isWithout_38 : decode b_S_isWithout 38 = .ok (.iinc 3 1, 3) := by decide +kernel
theorem d_S_isWithout_41 : decode b_S_isWithout 41 = .ok (.goto (-39), 3) := by decide +kernel
theorem d_S_isWithout_44 : decode b_S_isWithout 44 = .ok (.iconst 1, 1) := by decide +kernel
theorem d_S_isWithout_45 : decode b_S_isWithout 45 = .ok (.ireturn, 1) := by decide +kernel
theorem d_S_isWithin_0 : decode b_S_isWithin 0 = .ok (.iconst 0, 1) := by decide +kernel
theorem d_S_isWithin_1 : decode b_S_isWithin 1 = .ok (.istore_n 3, 1) := by decide +kernel
theorem d_S_isWithin_2 : decode b_S_isWithin 2 = .ok (.iload_n 3, 1) := by decide +kernel
theorem d_S_isWithin_3 : decode b_S_isWithin 3 = .ok (.bipush 16, 2) := by decide +kernel
theorem d_S_isWithin_5 : decode b_S_isWithin 5 = .ok (.if_icmp .ge 43, 3) := by decide +kernel
theorem d_S_isWithin_8 : decode b_S_isWithin 8 = .ok (.aload_n 0, 1) := by decide +kernel
theorem d_S_isWithin_9 : decode b_S_isWithin 9 = .ok (.getfield 11, 3) := by decide +kernel
theorem d_S_isWithin_12 : decode b_S_isWithin 12 = .ok (.iload_n 1, 1) := by decide +kernel
theorem d_S_isWithin_13 : decode b_S_isWithin 13 = .ok (.bipush 16, 2) := by decide +kernel
theorem d_S_isWithin_15 : decode b_S_isWithin 15 = .ok (.imul, 1) := by decide +kernel
theorem d_S_isWithin_16 : decode b_S_isWithin 16 = .ok (.iload_n 3, 1) := by decide +kernel
theorem d_S_isWithin_17 : decode b_S_isWithin 17 = .ok (.iadd, 1) := by decide +kernel
theorem d_S_isWithin_18 : decode b_S_isWithin 18 = .ok (.laload, 1) := by decide +kernel
theorem d_S_isWithin_19 : decode b_S_isWithin 19 = .ok (.aload_n 0, 1) := by decide +kernel
theorem d_S_isWithin_20 : decode b_S_isWithin 20 = .ok (.getfield 11, 3) := by decide +kernel
theorem d_S_isWithin_23 : decode b_S_isWithin 23 = .ok (.iload_n 2, 1) := by decide +kernel
theorem d_S_isWithin_24 : decode b_S_isWithin 24 = .ok (.bipush 16, 2) := by decide +kernel
theorem d_S_isWithin_26 : decode b_S_isWithin 26 = .ok (.imul, 1) := by decide +kernel
theorem d_S_isWithin_27 : decode b_S_isWithin 27 = .ok (.iload_n 3, 1) := by decide +kernel
theorem d_S_isWithin_28 : decode b_S_isWithin 28 = .ok (.iadd, 1) := by decide +kernel
theorem d_S_isWithin_29 : decode b_S_isWithin 29 = .ok (.laload, 1) := by decide +kernel
theorem d_S_isWithin_30 : decode b_S_isWithin 30 = .ok (.ldc2_w 15, 3) := by decide +kernel
theorem d_S_isWithin_33 : decode b_S_isWithin 33 = .ok (.lxor, 1) := by decide +kernel
theorem d_S_isWithin_34 : decode b_S_isWithin 34 = .ok (.land, 1) := by decide +kernel
theorem d_S_isWithin_35 : decode b_S_isWithin 35 = .ok (.lconst 0, 1) := by decide +kernel
theorem d_S_isWithin_36 : decode b_S_isWithin 36 = .ok (.lcmp, 1) := by decide +kernel
theorem d_S_isWithin_37 : decode b_S_isWithin 37 = .ok (.ifCond .eq 5, 3) := by decide +kernel
theorem d_S_isWithin_40 : decode b_S_isWithin 40 = .ok (.iconst 0, 1) := by decide +kernel
theorem d_S_isWithin_41 : decode b_S_isWithin 41 = .ok (.ireturn, 1) := by decide +kernel
theorem d_S_isWithin_42 : decode b_S_isWithin 42 = .ok (.iinc 3 1, 3) := by decide +kernel
theorem d_S_isWithin_45 : decode b_S_isWithin 45 = .ok (.goto (-43), 3) := by decide +kernel
theorem d_S_isWithin_48 : decode b_S_isWithin 48 = .ok (.iconst 1, 1) := by decide +kernel
theorem d_S_isWithin_49 : decode b_S_isWithin 49 = .ok (.ireturn, 1) := by decide +kernel
theorem d_S_contains_0 : decode b_S_contains 0 = .ok (.aload_n 0, 1) := by decide +kernel
theorem d_S_contains_1 : decode b_S_contains 1 = .ok (.getfield 11, 3) := by decide +kernel
theorem d_S_contains_4 : decode b_S_contains 4 = .ok (.iload_n 1, 1) := by decide +kernel
theorem d_S_contains_5 : decode b_S_contains 5 = .ok (.bipush 16, 2) := by decide +kernel
theorem d_S_contains_7 : decode b_S_contains 7 = .ok (.imul, 1) := by decide +kernel
theorem d_S_contains_8 : decode b_S_contains 8 = .ok (.iload_n 2, 1) := by decide +kernel
theorem d_S_contains_9 : decode b_S_contains 9 = .ok (.bipush 64, 2) := by decide +kernel
theorem d_S_contains_11 : decode b_S_contains 11 = .ok (.idiv, 1) := by decide +kernel
theorem d_S_contains_12 : decode b_S_contains 12 = .ok (.iadd, 1) := by decide +kernel
theorem d_S_contains_13 : decode b_S_contains 13 = .ok (.laload, 1) := by decide +kernel
theorem d_S_contains_14 : decode b_S_contains 14 = .ok (.lstore_n 3, 1) := by decide +kernel
theorem d_S_contains_15 : decode b_S_contains 15 = .ok (.lload_n 3, 1) := by decide +kernel
theorem d_S_contains_16 : decode b_S_contains 16 = .ok (.iload_n 2, 1) := by decide +kernel
theorem d_S_contains_17 : decode b_S_contains 17 = .ok (.bipush 64, 2) := by decide +kernel
theorem d_S_contains_19 : decode b_S_contains 19 = .ok (.irem, 1) := by decide +kernel
theorem d_S_contains_20 : decode b_S_contains 20 = .ok (.lushr, 1) := by decide +kernel
theorem d_S_contains_21 : decode b_S_contains 21 = .ok (.lconst 1, 1) := by decide +kernel
theorem d_S_contains_22 : decode b_S_contains 22 = .ok (.land, 1) := by decide +kernel
theorem d_S_contains_23 : decode b_S_contains 23 = .ok (.lconst 1, 1) := by decide +kernel
theorem d_S_contains_24 : decode b_S_contains 24 = .ok (.lcmp, 1) := by decide +kernel
theorem d_S_contains_25 : decode b_S_contains 25 = .ok (.ifCond .ne 7, 3) := by decide +kernel
theorem d_S_contains_28 : decode b_S_contains 28 = .ok (.iconst 1, 1) := by decide +kernel
theorem d_S_contains_29 : decode b_S_contains 29 = .ok (.goto 4, 3) := by decide +kernel
theorem d_S_contains_32 : decode b_S_contains 32 = .ok (.iconst 0, 1) := by decide +kernel
theorem d_S_contains_33 : decode b_S_contains 33 = .ok (.ireturn, 1) := by decide +kernel
theorem d_S_lowest_0 : decode b_S_lowest 0 = .ok (.iconst 0, 1) := by decide +kernel
theorem d_S_lowest_1 : decode b_S_lowest 1 = .ok (.istore_n 2, 1) := by decide +kernel
theorem d_S_lowest_2 : decode b_S_lowest 2 = .ok (.iload_n 2, 1) := by decide +kernel
theorem d_S_lowest_3 : decode b_S_lowest 3 = .ok (.bipush 16, 2) := by decide +kernel
theorem d_S_lowest_5 : decode b_S_lowest 5 = .ok (.if_icmp .ge 37, 3) := by decide +kernel
theorem d_S_lowest_8 : decode b_S_lowest 8 = .ok (.aload_n 0, 1) := by decide +kernel
theorem d_S_lowest_9 : decode b_S_lowest 9 = .ok (.getfield 11, 3) := by decide +kernel
theorem d_S_lowest_12 : decode b_S_lowest 12 = .ok (.iload_n 1, 1) := by decide +kernel
theorem d_S_lowest_13 : decode b_S_lowest 13 = .ok (.bipush 16, 2) := by decide +kernel
theorem d_S_lowest_15 : decode b_S_lowest 15 = .ok (.imul, 1) := by decide +kernel
theorem d_S_lowest_16 : decode b_S_lowest 16 = .ok (.iload_n 2, 1) := by decide +kernel
theorem d_S_lowest_17 : decode b_S_lowest 17 = .ok (.iadd, 1) := by decide +kernel
theorem d_S_lowest_18 : decode b_S_lowest 18 = .ok (.laload, 1) := by decide +kernel
theorem d_S_lowest_19 : decode b_S_lowest 19 = .ok (.lstore_n 3, 1) := by decide +kernel
theorem d_S_lowest_20 : decode b_S_lowest 20 = .ok (.lload_n 3, 1) := by decide +kernel
theorem d_S_lowest_21 : decode b_S_lowest 21 = .ok (.lconst 0, 1) := by decide +kernel
theorem d_S_lowest_22 : decode b_S_lowest 22 = .ok (.lcmp, 1) := by decide +kernel
theorem d_S_lowest_23 : decode b_S_lowest 23 = .ok (.ifCond .eq 13, 3) := by decide +kernel
theorem d_S_lowest_26 : decode b_S_lowest 26 = .ok (.iload_n 2, 1) := by decide +kernel
theorem d_S_lowest_27 : decode b_S_lowest 27 = .ok (.bipush 64, 2) := by decide +kernel
theorem d_S_lowest_29 : decode b_S_lowest 29 = .ok (.imul, 1) := by decide +kernel
theorem d_S_lowest_30 : decode b_S_lowest 30 = .ok (.lload_n 3, 1) := by decide +kernel
theorem d_S_lowest_31 : decode b_S_lowest 31 = .ok (.invokestatic 28, 3) := by decide +kernel
theorem d_S_lowest_34 : decode b_S_lowest 34 = .ok (.iadd, 1) := by decide +kernel
theorem d_S_lowest_35 : decode b_S_lowest 35 = .ok (.ireturn, 1) := by decide +kernel
theorem d_S_lowest_36 : decode b_S_lowest 36 = .ok (.iinc 2 1, 3) := by decide +kernel
theorem d_S_lowest_39 : decode b_S_lowest 39 = .ok (.goto (-37), 3) := by decide +kernel
theorem d_S_lowest_42 : decode b_S_lowest 42 = .ok (.iconst 0, 1) := by decide +kernel
theorem d_S_lowest_43 : decode b_S_lowest 43 = .ok (.ireturn, 1) := by decide +kernel
theorem d_S_lowestOne_0 : decode b_S_lowestOne 0 = .ok (.iconst 0, 1) := by decide +kernel
theorem d_S_lowestOne_1 : decode b_S_lowestOne 1 = .ok (.istore_n 2, 1) := by decide +kernel
theorem d_S_lowestOne_2 : decode b_S_lowestOne 2 = .ok (.iload_n 2, 1) := by decide +kernel
theorem d_S_lowestOne_3 : decode b_S_lowestOne 3 = .ok (.bipush 63, 2) := by decide +kernel
theorem d_S_lowestOne_5 : decode b_S_lowestOne 5 = .ok (.if_icmp .ge 19, 3) := by decide +kernel
theorem d_S_lowestOne_8 : decode b_S_lowestOne 8 = .ok (.lload_n 0, 1) := by decide +kernel
theorem d_S_lowestOne_9 : decode b_S_lowestOne 9 = .ok (.iload_n 2, 1) := by decide +kernel
theorem d_S_lowestOne_10 : decode b_S_lowestOne 10 = .ok (.lushr, 1) := by decide +kernel
theorem d_S_lowestOne_11 : decode b_S_lowestOne 11 = .ok (.lconst 1, 1) := by decide +kernel
theorem d_S_lowestOne_12 : decode b_S_lowestOne 12 = .ok (.land, 1) := by decide +kernel
theorem d_S_lowestOne_13 : decode b_S_lowestOne 13 = .ok (.lconst 0, 1) := by decide +kernel
theorem d_S_lowestOne_14 : decode b_S_lowestOne 14 = .ok (.lcmp, 1) := by decide +kernel
theorem d_S_lowestOne_15 : decode b_S_lowestOne 15 = .ok (.ifCond .ne 9, 3) := by decide +kernel
theorem d_S_lowestOne_18 : decode b_S_lowestOne 18 = .ok (.iinc 2 1, 3) := by decide +kernel
theorem d_S_lowestOne_21 : decode b_S_lowestOne 21 = .ok (.goto (-19), 3) := by decide +kernel
theorem d_S_lowestOne_24 : decode b_S_lowestOne 24 = .ok (.iload_n 2, 1) := by decide +kernel
theorem d_S_lowestOne_25 : decode b_S_lowestOne 25 = .ok (.ireturn, 1) := by decide +kernel
/-! what each instruction is: BitSolver$Circuits -/
theorem d_C_init_0 : decode b_C_init 0 = .ok (.aload_n 0, 1) := by decide +kernel
theorem d_C_init_1 : decode b_C_init 1 = .ok (.invokespecial 3, 3) := by decide +kernel
theorem d_C_init_4 : decode b_C_init 4 = .ok (.aload_n 0, 1) := by decide +kernel
theorem d_C_init_5 : decode b_C_init 5 = .ok (.new 9, 3) := by decide +kernel
theorem d_C_init_8 : decode b_C_init 8 = .ok (.dup, 1) := by decide +kernel
theorem d_C_init_9 : decode b_C_init 9 = .ok (.sipush 260, 3) := by decide +kernel
theorem d_C_init_12 : decode b_C_init 12 = .ok (.invokespecial 11, 3) := by decide +kernel
theorem d_C_init_15 : decode b_C_init 15 = .ok (.putfield 14, 3) := by decide +kernel
theorem d_C_init_18 : decode b_C_init 18 = .ok (.return_, 1) := by decide +kernel
theorem d_C_sum_0 : decode b_C_sum 0 = .ok (.aload_n 0, 1) := by decide +kernel
theorem d_C_sum_1 : decode b_C_sum 1 = .ok (.getfield 14, 3) := by decide +kernel
theorem d_C_sum_4 : decode b_C_sum 4 = .ok (.sipush 257, 3) := by decide +kernel
theorem d_C_sum_7 : decode b_C_sum 7 = .ok (.iconst 1, 1) := by decide +kernel
theorem d_C_sum_8 : decode b_C_sum 8 = .ok (.iconst 0, 1) := by decide +kernel
theorem d_C_sum_9 : decode b_C_sum 9 = .ok (.invokevirtual 20, 3) := by decide +kernel
theorem d_C_sum_12 : decode b_C_sum 12 = .ok (.iconst 0, 1) := by decide +kernel
theorem d_C_sum_13 : decode b_C_sum 13 = .ok (.istore 5, 2) := by decide +kernel
theorem d_C_sum_15 : decode b_C_sum 15 = .ok (.iload 5, 2) := by decide +kernel
theorem d_C_sum_17 : decode b_C_sum 17 = .ok (.iload 4, 2) := by decide +kernel
theorem d_C_sum_19 : decode b_C_sum 19 = .ok (.if_icmp .ge 25, 3) := by decide +kernel
theorem d_C_sum_22 : decode b_C_sum 22 = .ok (.aload_n 0, 1) := by decide +kernel
theorem d_C_sum_23 : decode b_C_sum 23 = .ok (.iload_n 1, 1) := by decide +kernel
theorem d_C_sum_24 : decode b_C_sum 24 = .ok (.iload 5, 2) := by decide +kernel
theorem d_C_sum_26 : decode b_C_sum 26 = .ok (.iadd, 1) := by decide +kernel
theorem d_C_sum_27 : decode b_C_sum 27 = .ok (.iload_n 2, 1) := by decide +kernel
theorem d_C_sum_28 : decode b_C_sum 28 = .ok (.iload 5, 2) := by decide +kernel
theorem d_C_sum_30 : decode b_C_sum 30 = .ok (.iadd, 1) := by decide +kernel
theorem d_C_sum_31 : decode b_C_sum 31 = .ok (.iload_n 3, 1) := by decide +kernel
theorem d_C_sum_32 : decode b_C_sum 32 = .ok (.iload 5, 2) := by decide +kernel
theorem d_C_sum_34 : decode b_C_sum 34 = .ok (.iadd, 1) := by decide +kernel
theorem d_C_sum_35 : decode b_C_sum 35 = .ok (.invokevirtual 24, 3) := by decide +kernel
theorem d_C_sum_38 : decode b_C_sum 38 = .ok (.iinc 5 1, 3) := by decide +kernel
theorem d_C_sum_41 : decode b_C_sum 41 = .ok (.goto (-26), 3) := by decide +kernel
theorem d_C_sum_44 : decode b_C_sum 44 = .ok (.return_, 1) := by decide +kernel
theorem d_C_difference_0 : decode b_C_difference 0 = .ok (.aload_n 0, 1) := by decide +kernel
theorem d_C_difference_1 : decode b_C_difference 1 = .ok (.getfield 14, 3) := by decide +kernel
theorem d_C_difference_4 : decode b_C_difference 4 = .ok (.sipush 257, 3) := by decide +kernel
theorem d_C_difference_7 : decode b_C_difference 7 = .ok (.iconst 1, 1) := by decide +kernel
theorem d_C_difference_8 : decode b_C_difference 8 = .ok (.iconst 1, 1) := by decide +kernel
theorem d_C_difference_9 : decode b_C_difference 9 = .ok (.invokevirtual 20, 3) := by decide +kernel
theorem d_C_difference_12 : decode b_C_difference 12 = .ok (.iconst 0, 1) := by decide +kernel
theorem d_C_difference_13 : decode b_C_difference 13 = .ok (.istore 5, 2) := by decide +kernel
theorem d_C_difference_15 : decode b_C_difference 15 = .ok (.iload 5, 2) := by decide +kernel
theorem d_C_difference_17 : decode b_C_difference 17 = .ok (.iload 4, 2) := by decide +kernel
theorem d_C_difference_19 : decode b_C_difference 19 = .ok (.if_icmp .ge 39, 3) := by decide +kernel
theorem d_C_difference_22 : decode b_C_difference 22 = .ok (.aload_n 0, 1) := by decide +kernel
theorem d_C_difference_23 : decode b_C_difference 23 = .ok (.getfield 14, 3) := by decide +kernel
theorem d_C_difference_26 : decode b_C_difference 26 = .ok (.sipush 256, 3) := by decide +kernel
theorem d_C_difference_29 : decode b_C_difference 29 = .ok (.iload_n 3, 1) := by decide +kernel
theorem d_C_difference_30 : decode b_C_difference 30 = .ok (.iload 5, 2) := by decide +kernel
theorem d_C_difference_32 : decode b_C_difference 32 = .ok (.iadd, 1) := by decide +kernel
theorem d_C_difference_33 : decode b_C_difference 33 = .ok (.iconst 1, 1) := by decide +kernel
theorem d_C_difference_34 : decode b_C_difference 34 = .ok (.invokevirtual 28, 3) := by decide +kernel
theorem d_C_difference_37 : decode b_C_difference 37 = .ok (.aload_n 0, 1) := by decide +kernel
theorem d_C_difference_38 : decode b_C_difference 38 = .ok (.iload_n 1, 1) := by decide +kernel
theorem d_C_difference_39 : decode b_C_difference 39 = .ok (.iload 5, 2) := by decide +kernel
theorem d_C_difference_41 : decode b_C_difference 41 = .ok (.iadd, 1) := by decide +kernel
theorem d_C_difference_42 : decode b_C_difference 42 = .ok (.iload_n 2, 1) := by decide +kernel
theorem d_C_difference_43 : decode b_C_difference 43 = .ok (.iload 5, 2) := by decide +kernel
theorem d_C_difference_45 : decode b_C_difference 45 = .ok (.iadd, 1) := by decide +kernel
theorem d_C_difference_46 : decode b_C_difference 46 = .ok (.sipush 256, 3) := by decide +kernel
theorem d_C_difference_49 : decode b_C_difference 49 = .ok (.invokevirtual 24, 3) := by decide +kernel
theorem d_C_difference_52 : decode b_C_difference 52 = .ok (.iinc 5 1, 3) := by decide +kernel
theorem d_C_difference_55 : decode b_C_difference 55 = .ok (.goto (-40), 3) := by decide +kernel
theorem d_C_difference_58 : decode b_C_difference 58 = .ok (.return_, 1) := by decide +kernel
theorem d_C_product_0 : decode b_C_product 0 = .ok (.aload_n 0, 1) := by decide +kernel
theorem d_C_product_1 : decode b_C_product 1 = .ok (.getfield 14, 3) := by decide +kernel
theorem d_C_product_4 : decode b_C_product 4 = .ok (.iload_n 1, 1) := by decide +kernel
theorem d_C_product_5 : decode b_C_product 5 = .ok (.iload 4, 2) := by decide +kernel
theorem d_C_product_7 : decode b_C_product 7 = .ok (.iconst 0, 1) := by decide +kernel
theorem d_C_product_8 : decode b_C_product 8 = .ok (.invokevirtual 20, 3) := by decide +kernel
theorem d_C_product_11 : decode b_C_product 11 = .ok (.iconst 0, 1) := by decide +kernel
theorem d_C_product_12 : decode b_C_product 12 = .ok (.istore 5, 2) := by decide +kernel
theorem d_C_product_14 : decode b_C_product 14 = .ok (.iload 5, 2) := by decide +kernel
theorem d_C_product_16 : decode b_C_product 16 = .ok (.iload 4, 2) := by decide +kernel
theorem d_C_product_18 : decode b_C_product 18 = .ok (.if_icmp .ge 75, 3) := by decide +kernel
theorem d_C_product_21 : decode b_C_product 21 = .ok (.aload_n 0, 1) := by decide +kernel
theorem d_C_product_22 : decode b_C_product 22 = .ok (.getfield 14, 3) := by decide +kernel
theorem d_C_product_25 : decode b_C_product 25 = .ok (.sipush 257, 3) := by decide +kernel
theorem d_C_product_28 : decode b_C_product 28 = .ok (.iconst 1, 1) := by decide +kernel
theorem d_C_product_29 : decode b_C_product 29 = .ok (.iconst 0, 1) := by decide +kernel
theorem d_C_product_30 : decode b_C_product 30 = .ok (.invokevirtual 20, 3) := by decide +kernel
theorem d_C_product_33 : decode b_C_product 33 = .ok (.iload 5, 2) := by decide +kernel
theorem d_C_product_35 : decode b_C_product 35 = .ok (.istore 6, 2) := by decide +kernel
theorem d_C_product_37 : decode b_C_product 37 = .ok (.iload 6, 2) := by decide +kernel
theorem d_C_product_39 : decode b_C_product 39 = .ok (.iload 4, 2) := by decide +kernel
theorem d_C_product_41 : decode b_C_product 41 = .ok (.if_icmp .ge 46, 3) := by decide +kernel
theorem d_C_product_44 : decode b_C_product 44 = .ok (.aload_n 0, 1) := by decide +kernel
theorem d_C_product_45 : decode b_C_product 45 = .ok (.getfield 14, 3) := by decide +kernel
theorem d_C_product_48 : decode b_C_product 48 = .ok (.sipush 256, 3) := by decide +kernel
theorem d_C_product_51 : decode b_C_product 51 = .ok (.iload_n 2, 1) := by decide +kernel
theorem d_C_product_52 : decode b_C_product 52 = .ok (.iload 6, 2) := by decide +kernel
theorem d_C_product_54 : decode b_C_product 54 = .ok (.iadd, 1) := by decide +kernel
theorem d_C_product_55 : decode b_C_product 55 = .ok (.iload 5, 2) := by decide +kernel
theorem d_C_product_57 : decode b_C_product 57 = .ok (.isub, 1) := by decide +kernel
theorem d_C_product_58 : decode b_C_product 58 = .ok (.iload_n 3, 1) := by decide +kernel
theorem d_C_product_59 : decode b_C_product 59 = .ok (.iload 5, 2) := by decide +kernel
theorem d_C_product_61 : decode b_C_product 61 = .ok (.iadd, 1) := by decide +kernel
theorem d_C_product_62 : decode b_C_product 62 = .ok (.iconst 1, 1) := by decide +kernel
theorem d_C_product_63 : decode b_C_product 63 = .ok (.invokevirtual 31, 3) := by decide +kernel
theorem d_C_product_66 : decode b_C_product 66 = .ok (.aload_n 0, 1) := by decide +kernel
theorem d_C_product_67 : decode b_C_product 67 = .ok (.iload_n 1, 1) := by decide +kernel
theorem d_C_product_68 : decode b_C_product 68 = .ok (.iload 6, 2) := by decide +kernel
theorem d_C_product_70 : decode b_C_product 70 = .ok (.iadd, 1) := by decide +kernel
theorem d_C_product_71 : decode b_C_product 71 = .ok (.iload_n 1, 1) := by decide +kernel
theorem d_C_product_72 : decode b_C_product 72 = .ok (.iload 6, 2) := by decide +kernel
theorem d_C_product_74 : decode b_C_product 74 = .ok (.iadd, 1) := by decide +kernel
theorem d_C_product_75 : decode b_C_product 75 = .ok (.sipush 256, 3) := by decide +kernel
theorem d_C_product_78 : decode b_C_product 78 = .ok (.invokevirtual 24, 3) := by decide +kernel
theorem d_C_product_81 : decode b_C_product 81 = .ok (.iinc 6 1, 3) := by decide +kernel
theorem d_C_product_84 : decode b_C_product 84 = .ok (.goto (-47), 3) := by decide +kernel
theorem d_C_product_87 : decode b_C_product 87 = .ok (.iinc 5 1, 3) := by decide +kernel
theorem d_C_product_90 : decode b_C_product 90 = .ok (.goto (-76), 3) := by decide +kernel
theorem d_C_product_93 : decode b_C_product 93 = .ok (.return_, 1) := by decide +kernel
theorem d_C_addBit_0 : decode b_C_addBit 0 = .ok (.aload_n 0, 1) := by decide +kernel
theorem d_C_addBit_1 : decode b_C_addBit 1 = .ok (.getfield 14, 3) := by decide +kernel
theorem d_C_addBit_4 : decode b_C_addBit 4 = .ok (.sipush 258, 3) := by decide +kernel
theorem d_C_addBit_7 : decode b_C_addBit 7 = .ok (.iload_n 2, 1) := by decide +kernel
theorem d_C_addBit_8 : decode b_C_addBit 8 = .ok (.iload_n 3, 1) := by decide +kernel
theorem d_C_addBit_9 : decode b_C_addBit 9 = .ok (.iconst 1, 1) := by decide +kernel
theorem d_C_addBit_10 : decode b_C_addBit 10 = .ok (.invokevirtual 35, 3) := by decide +kernel
theorem d_C_addBit_13 : decode b_C_addBit 13 = .ok (.aload_n 0, 1) := by decide +kernel
theorem d_C_addBit_14 : decode b_C_addBit 14 = .ok (.getfield 14, 3) := by decide +kernel
theorem d_C_addBit_17 : decode b_C_addBit 17 = .ok (.sipush 259, 3) := by decide +kernel
theorem d_C_addBit_20 : decode b_C_addBit 20 = .ok (.iload_n 2, 1) := by decide +kernel
theorem d_C_addBit_21 : decode b_C_addBit 21 = .ok (.iload_n 3, 1) := by decide +kernel
theorem d_C_addBit_22 : decode b_C_addBit 22 = .ok (.iconst 1, 1) := by decide +kernel
theorem d_C_addBit_23 : decode b_C_addBit 23 = .ok (.invokevirtual 31, 3) := by decide +kernel
theorem d_C_addBit_26 : decode b_C_addBit 26 = .ok (.aload_n 0, 1) := by decide +kernel
theorem d_C_addBit_27 : decode b_C_addBit 27 = .ok (.getfield 14, 3) := by decide +kernel
theorem d_C_addBit_30 : decode b_C_addBit 30 = .ok (.iload_n 1, 1) := by decide +kernel
theorem d_C_addBit_31 : decode b_C_addBit 31 = .ok (.sipush 258, 3) := by decide +kernel
theorem d_C_addBit_34 : decode b_C_addBit 34 = .ok (.sipush 257, 3) := by decide +kernel
theorem d_C_addBit_37 : decode b_C_addBit 37 = .ok (.iconst 1, 1) := by decide +kernel
theorem d_C_addBit_38 : decode b_C_addBit 38 = .ok (.invokevirtual 35, 3) := by decide +kernel
theorem d_C_addBit_41 : decode b_C_addBit 41 = .ok (.aload_n 0, 1) := by decide +kernel
theorem d_C_addBit_42 : decode b_C_addBit 42 = .ok (.getfield 14, 3) := by decide +kernel
theorem d_C_addBit_45 : decode b_C_addBit 45 = .ok (.sipush 257, 3) := by decide +kernel
theorem d_C_addBit_48 : decode b_C_addBit 48 = .ok (.sipush 257, 3) := by decide +kernel
theorem d_C_addBit_51 : decode b_C_addBit 51 = .ok (.sipush 258, 3) := by decide +kernel
theorem d_C_addBit_54 : decode b_C_addBit 54 = .ok (.iconst 1, 1) := by decide +kernel
theorem d_C_addBit_55 : decode b_C_addBit 55 = .ok (.invokevirtual 31, 3) := by decide +kernel
theorem d_C_addBit_58 : decode b_C_addBit 58 = .ok (.aload_n 0, 1) := by decide +kernel
theorem d_C_addBit_59 : decode b_C_addBit 59 = .ok (.getfield 14, 3) := by decide +kernel
theorem d_C_addBit_62 : decode b_C_addBit 62 = .ok (.sipush 257, 3) := by decide +kernel
theorem d_C_addBit_65 : decode b_C_addBit 65 = .ok (.sipush 257, 3) := by decide +kernel
theorem d_C_addBit_68 : decode b_C_addBit 68 = .ok (.sipush 259, 3) := by decide +kernel
theorem d_C_addBit_71 : decode b_C_addBit 71 = .ok (.iconst 1, 1) := by decide +kernel
theorem d_C_addBit_72 : decode b_C_addBit 72 = .ok (.invokevirtual 38, 3) := by decide +kernel
theorem d_C_addBit_75 : decode b_C_addBit 75 = .ok (.return_, 1) := by decide +kernel
theorem d_C_moveUp_0 : decode b_C_moveUp 0 = .ok (.iconst 0, 1) := by decide +kernel
theorem d_C_moveUp_1 : decode b_C_moveUp 1 = .ok (.istore 5, 2) := by decide +kernel
theorem d_C_moveUp_3 : decode b_C_moveUp 3 = .ok (.iload 5, 2) := by decide +kernel
theorem d_C_moveUp_5 : decode b_C_moveUp 5 = .ok (.iload_n 3, 1) := by decide +kernel
theorem d_C_moveUp_6 : decode b_C_moveUp 6 = .ok (.if_icmp .ge 51, 3) := by decide +kernel
theorem d_C_moveUp_9 : decode b_C_moveUp 9 = .ok (.iload 5, 2) := by decide +kernel
theorem d_C_moveUp_11 : decode b_C_moveUp 11 = .ok (.iload 4, 2) := by decide +kernel
theorem d_C_moveUp_13 : decode b_C_moveUp 13 = .ok (.if_icmp .ge 19, 3) := by decide +kernel
theorem d_C_moveUp_16 : decode b_C_moveUp 16 = .ok (.aload_n 0, 1) := by decide +kernel
theorem d_C_moveUp_17 : decode b_C_moveUp 17 = .ok (.getfield 14, 3) := by decide +kernel
theorem d_C_moveUp_20 : decode b_C_moveUp 20 = .ok (.iload_n 1, 1) := by decide +kernel
theorem d_C_moveUp_21 : decode b_C_moveUp 21 = .ok (.iload 5, 2) := by decide +kernel
theorem d_C_moveUp_23 : decode b_C_moveUp 23 = .ok (.iadd, 1) := by decide +kernel
theorem d_C_moveUp_24 : decode b_C_moveUp 24 = .ok (.iconst 1, 1) := by decide +kernel
theorem d_C_moveUp_25 : decode b_C_moveUp 25 = .ok (.iconst 0, 1) := by decide +kernel
theorem d_C_moveUp_26 : decode b_C_moveUp 26 = .ok (.invokevirtual 20, 3) := by decide +kernel
theorem d_C_moveUp_29 : decode b_C_moveUp 29 = .ok (.goto 22, 3) := by decide +kernel
theorem d_C_moveUp_32 : decode b_C_moveUp 32 = .ok (.aload_n 0, 1) := by decide +kernel
theorem d_C_moveUp_33 : decode b_C_moveUp 33 = .ok (.getfield 14, 3) := by decide +kernel
theorem d_C_moveUp_36 : decode b_C_moveUp 36 = .ok (.iload_n 1, 1) := by decide +kernel
theorem d_C_moveUp_37 : decode b_C_moveUp 37 = .ok (.iload 5, 2) := by decide +kernel
theorem d_C_moveUp_39 : decode b_C_moveUp 39 = .ok (.iadd, 1) := by decide +kernel
theorem d_C_moveUp_40 : decode b_C_moveUp 40 = .ok (.iload_n 2, 1) := by decide +kernel
theorem d_C_moveUp_41 : decode b_C_moveUp 41 = .ok (.iload 5, 2) := by decide +kernel
theorem d_C_moveUp_43 : decode b_C_moveUp 43 = .ok (.iadd, 1) := by decide +kernel
theorem d_C_moveUp_44 : decode b_C_moveUp 44 = .ok (.iload 4, 2) := by decide +kernel
theorem d_C_moveUp_46 : decode b_C_moveUp 46 = .ok (.isub, 1) := by decide +kernel
theorem d_C_moveUp_47 : decode b_C_moveUp 47 = .ok (.iconst 1, 1) := by decide +kernel
theorem d_C_moveUp_48 : decode b_C_moveUp 48 = .ok (.invokevirtual 41, 3) := by decide +kernel
theorem d_C_moveUp_51 : decode b_C_moveUp 51 = .ok (.iinc 5 1, 3) := by decide +kernel
theorem d_C_moveUp_54 : decode b_C_moveUp 54 = .ok (.goto (-51), 3) := by decide +kernel
theorem d_C_moveUp_57 : decode b_C_moveUp 57 = .ok (.return_, 1) := by decide +kernel
theorem d_C_moveDown_0 : decode b_C_moveDown 0 = .ok (.iconst 0, 1) := by decide +kernel
theorem d_C_moveDown_1 : decode b_C_moveDown 1 = .ok (.istore 6, 2) := by decide +kernel
theorem d_C_moveDown_3 : decode b_C_moveDown 3 = .ok (.iload 6, 2) := by decide +kernel
theorem d_C_moveDown_5 : decode b_C_moveDown 5 = .ok (.iload_n 3, 1) := by decide +kernel
theorem d_C_moveDown_6 : decode b_C_moveDown 6 = .ok (.if_icmp .ge 78, 3) := by decide +kernel
theorem d_C_moveDown_9 : decode b_C_moveDown 9 = .ok (.iload 6, 2) := by decide +kernel
theorem d_C_moveDown_11 : decode b_C_moveDown 11 = .ok (.iload 4, 2) := by decide +kernel
theorem d_C_moveDown_13 : decode b_C_moveDown 13 = .ok (.iadd, 1) := by decide +kernel
theorem d_C_moveDown_14 : decode b_C_moveDown 14 = .ok (.iload_n 3, 1) := by decide +kernel
theorem d_C_moveDown_15 : decode b_C_moveDown 15 = .ok (.if_icmp .ge 25, 3) := by decide +kernel
theorem d_C_moveDown_18 : decode b_C_moveDown 18 = .ok (.aload_n 0, 1) := by decide +kernel
theorem d_C_moveDown_19 : decode b_C_moveDown 19 = .ok (.getfield 14, 3) := by decide +kernel
theorem d_C_moveDown_22 : decode b_C_moveDown 22 = .ok (.iload_n 1, 1) := by decide +kernel
theorem d_C_moveDown_23 : decode b_C_moveDown 23 = .ok (.iload 6, 2) := by decide +kernel
theorem d_C_moveDown_25 : decode b_C_moveDown 25 = .ok (.iadd, 1) := by decide +kernel
theorem d_C_moveDown_26 : decode b_C_moveDown 26 = .ok (.iload_n 2, 1) := by decide +kernel
theorem d_C_moveDown_27 : decode b_C_moveDown 27 = .ok (.iload 6, 2) := by decide +kernel
theorem d_C_moveDown_29 : decode b_C_moveDown 29 = .ok (.iadd, 1) := by decide +kernel
theorem d_C_moveDown_30 : decode b_C_moveDown 30 = .ok (.iload 4, 2) := by decide +kernel
theorem d_C_moveDown_32 : decode b_C_moveDown 32 = .ok (.iadd, 1) := by decide +kernel
theorem d_C_moveDown_33 : decode b_C_moveDown 33 = .ok (.iconst 1, 1) := by decide +kernel
theorem d_C_moveDown_34 : decode b_C_moveDown 34 = .ok (.invokevirtual 41, 3) := by decide +kernel
theorem d_C_moveDown_37 : decode b_C_moveDown 37 = .ok (.goto 41, 3) := by decide +kernel
theorem d_C_moveDown_40 : decode b_C_moveDown 40 = .ok (.iload 5, 2) := by decide +kernel
theorem d_C_moveDown_42 : decode b_C_moveDown 42 = .ok (.ifCond .eq 23, 3) := by decide +kernel
theorem d_C_moveDown_45 : decode b_C_moveDown 45 = .ok (.aload_n 0, 1) := by decide +kernel
theorem d_C_moveDown_46 : decode b_C_moveDown 46 = .ok (.getfield 14, 3) := by decide +kernel
theorem d_C_moveDown_49 : decode b_C_moveDown 49 = .ok (.iload_n 1, 1) := by decide +kernel
theorem d_C_moveDown_50 : decode b_C_moveDown 50 = .ok (.iload 6, 2) := by decide +kernel
theorem d_C_moveDown_52 : decode b_C_moveDown 52 = .ok (.iadd, 1) := by decide +kernel
theorem d_C_moveDown_53 : decode b_C_moveDown 53 = .ok (.iload_n 2, 1) := by decide +kernel
theorem d_C_moveDown_54 : decode b_C_moveDown 54 = .ok (.iload_n 3, 1) := by decide +kernel
theorem d_C_moveDown_55 : decode b_C_moveDown 55 = .ok (.iadd, 1) := by decide +kernel
theorem d_C_moveDown_56 : decode b_C_moveDown 56 = .ok (.iconst 1, 1) := by decide +kernel
theorem d_C_moveDown_57 : decode b_C_moveDown 57 = .ok (.isub, 1) := by decide +kernel
theorem d_C_moveDown_58 : decode b_C_moveDown 58 = .ok (.iconst 1, 1) := by decide +kernel
theorem d_C_moveDown_59 : decode b_C_moveDown 59 = .ok (.invokevirtual 41, 3) := by decide +kernel
theorem d_C_moveDown_62 : decode b_C_moveDown 62 = .ok (.goto 16, 3) := by decide +kernel
theorem d_C_moveDown_65 : decode b_C_moveDown 65 = .ok (.aload_n 0, 1) := by decide +kernel
theorem d_C_moveDown_66 : decode b_C_moveDown 66 = .ok (.getfield 14, 3) := by decide +kernel
theorem d_C_moveDown_69 : decode b_C_moveDown 69 = .ok (.iload_n 1, 1) := by decide +kernel
theorem d_C_moveDown_70 : decode b_C_moveDown 70 = .ok (.iload 6, 2) := by decide +kernel
theorem d_C_moveDown_72 : decode b_C_moveDown 72 = .ok (.iadd, 1) := by decide +kernel
theorem d_C_moveDown_73 : decode b_C_moveDown 73 = .ok (.iconst 1, 1) := by decide +kernel
theorem d_C_moveDown_74 : decode b_C_moveDown 74 = .ok (.iconst 0, 1) := by decide +kernel
theorem d_C_moveDown_75 : decode b_C_moveDown 75 = .ok (.invokevirtual 20, 3) := by decide +kernel
theorem d_C_moveDown_78 : decode b_C_moveDown 78 = .ok (.iinc 6 1, 3) := by decide +kernel
theorem d_C_moveDown_81 : decode b_C_moveDown 81 = .ok (.goto (-78), 3) := by decide +kernel
theorem d_C_moveDown_84 : decode b_C_moveDown 84 = .ok (.return_, 1) := by decide +kernel
theorem d_C_choice_0 : decode b_C_choice 0 = .ok (.iconst 0, 1) := by decide +kernel
theorem d_C_choice_1 : decode b_C_choice 1 = .ok (.istore 6, 2) := by decide +kernel
theorem d_C_choice_3 : decode b_C_choice 3 = .ok (.iload 6, 2) := by decide +kernel
theorem d_C_choice_5 : decode b_C_choice 5 = .ok (.iload 5, 2) := by decide +kernel
theorem d_C_choice_7 : decode b_C_choice 7 = .ok (.if_icmp .ge 30, 3) := by decide +kernel
theorem d_C_choice_10 : decode b_C_choice 10 = .ok (.aload_n 0, 1) := by decide +kernel
theorem d_C_choice_11 : decode b_C_choice 11 = .ok (.getfield 14, 3) := by decide +kernel
theorem d_C_choice_14 : decode b_C_choice 14 = .ok (.iload_n 1, 1) := by decide +kernel
theorem d_C_choice_15 : decode b_C_choice 15 = .ok (.iload 6, 2) := by decide +kernel
theorem d_C_choice_17 : decode b_C_choice 17 = .ok (.iadd, 1) := by decide +kernel
theorem d_C_choice_18 : decode b_C_choice 18 = .ok (.iload_n 2, 1) := by decide +kernel
theorem d_C_choice_19 : decode b_C_choice 19 = .ok (.iload_n 3, 1) := by decide +kernel
theorem d_C_choice_20 : decode b_C_choice 20 = .ok (.iload 6, 2) := by decide +kernel
theorem d_C_choice_22 : decode b_C_choice 22 = .ok (.iadd, 1) := by decide +kernel
theorem d_C_choice_23 : decode b_C_choice 23 = .ok (.iload 4, 2) := by decide +kernel
theorem d_C_choice_25 : decode b_C_choice 25 = .ok (.iload 6, 2) := by decide +kernel
theorem d_C_choice_27 : decode b_C_choice 27 = .ok (.iadd, 1) := by decide +kernel
theorem d_C_choice_28 : decode b_C_choice 28 = .ok (.invokevirtual 44, 3) := by decide +kernel
theorem d_C_choice_31 : decode b_C_choice 31 = .ok (.iinc 6 1, 3) := by decide +kernel
theorem d_C_choice_34 : decode b_C_choice 34 = .ok (.goto (-31), 3) := by decide +kernel
theorem d_C_choice_37 : decode b_C_choice 37 = .ok (.return_, 1) := by decide +kernel
theorem d_C_equal_0 : decode b_C_equal 0 = .ok (.aload_n 0, 1) := by decide +kernel
theorem d_C_equal_1 : decode b_C_equal 1 = .ok (.getfield 14, 3) := by decide +kernel
theorem d_C_equal_4 : decode b_C_equal 4 = .ok (.iload_n 1, 1) := by decide +kernel
theorem d_C_equal_5 : decode b_C_equal 5 = .ok (.iconst 1, 1) := by decide +kernel
theorem d_C_equal_6 : decode b_C_equal 6 = .ok (.iconst 1, 1) := by decide +kernel
theorem d_C_equal_7 : decode b_C_equal 7 = .ok (.invokevirtual 20, 3) := by decide +kernel
theorem d_C_equal_10 : decode b_C_equal 10 = .ok (.iconst 0, 1) := by decide +kernel
theorem d_C_equal_11 : decode b_C_equal 11 = .ok (.istore 5, 2) := by decide +kernel
theorem d_C_equal_13 : decode b_C_equal 13 = .ok (.iload 5, 2) := by decide +kernel
theorem d_C_equal_15 : decode b_C_equal 15 = .ok (.iload 4, 2) := by decide +kernel
theorem d_C_equal_17 : decode b_C_equal 17 = .ok (.if_icmp .ge 39, 3) := by decide +kernel
theorem d_C_equal_20 : decode b_C_equal 20 = .ok (.aload_n 0, 1) := by decide +kernel
theorem d_C_equal_21 : decode b_C_equal 21 = .ok (.getfield 14, 3) := by decide +kernel
theorem d_C_equal_24 : decode b_C_equal 24 = .ok (.sipush 256, 3) := by decide +kernel
theorem d_C_equal_27 : decode b_C_equal 27 = .ok (.iload_n 2, 1) := by decide +kernel
theorem d_C_equal_28 : decode b_C_equal 28 = .ok (.iload 5, 2) := by decide +kernel
theorem d_C_equal_30 : decode b_C_equal 30 = .ok (.iadd, 1) := by decide +kernel
theorem d_C_equal_31 : decode b_C_equal 31 = .ok (.iload_n 3, 1) := by decide +kernel
theorem d_C_equal_32 : decode b_C_equal 32 = .ok (.iload 5, 2) := by decide +kernel
theorem d_C_equal_34 : decode b_C_equal 34 = .ok (.iadd, 1) := by decide +kernel
theorem d_C_equal_35 : decode b_C_equal 35 = .ok (.iconst 1, 1) := by decide +kernel
theorem d_C_equal_36 : decode b_C_equal 36 = .ok (.invokevirtual 35, 3) := by decide +kernel
theorem d_C_equal_39 : decode b_C_equal 39 = .ok (.aload_n 0, 1) := by decide +kernel
theorem d_C_equal_40 : decode b_C_equal 40 = .ok (.getfield 14, 3) := by decide +kernel
theorem d_C_equal_43 : decode b_C_equal 43 = .ok (.iload_n 1, 1) := by decide +kernel
theorem d_C_equal_44 : decode b_C_equal 44 = .ok (.sipush 256, 3) := by decide +kernel
theorem d_C_equal_47 : decode b_C_equal 47 = .ok (.invokevirtual 47, 3) := by decide +kernel
theorem d_C_equal_50 : decode b_C_equal 50 = .ok (.iinc 5 1, 3) := by decide +kernel
theorem d_C_equal_53 : decode b_C_equal 53 = .ok (.goto (-40), 3) := by decide +kernel
theorem d_C_equal_56 : decode b_C_equal 56 = .ok (.return_, 1) := by decide +kernel
theorem d_C_less_0 : decode b_C_less 0 = .ok (.aload_n 0, 1) := by decide +kernel
theorem d_C_less_1 : decode b_C_less 1 = .ok (.getfield 14, 3) := by decide +kernel
theorem d_C_less_4 : decode b_C_less 4 = .ok (.iload_n 1, 1) := by decide +kernel
theorem d_C_less_5 : decode b_C_less 5 = .ok (.iconst 1, 1) := by decide +kernel
theorem d_C_less_6 : decode b_C_less 6 = .ok (.iconst 0, 1) := by decide +kernel
theorem d_C_less_7 : decode b_C_less 7 = .ok (.invokevirtual 20, 3) := by decide +kernel
theorem d_C_less_10 : decode b_C_less 10 = .ok (.iconst 0, 1) := by decide +kernel
theorem d_C_less_11 : decode b_C_less 11 = .ok (.istore 6, 2) := by decide +kernel
theorem d_C_less_13 : decode b_C_less 13 = .ok (.iload 6, 2) := by decide +kernel
theorem d_C_less_15 : decode b_C_less 15 = .ok (.iload 4, 2) := by decide +kernel
theorem d_C_less_17 : decode b_C_less 17 = .ok (.if_icmp .ge 77, 3) := by decide +kernel
theorem d_C_less_20 : decode b_C_less 20 = .ok (.aload_n 0, 1) := by decide +kernel
theorem d_C_less_21 : decode b_C_less 21 = .ok (.getfield 14, 3) := by decide +kernel
theorem d_C_less_24 : decode b_C_less 24 = .ok (.sipush 256, 3) := by decide +kernel
theorem d_C_less_27 : decode b_C_less 27 = .ok (.iload_n 2, 1) := by decide +kernel
theorem d_C_less_28 : decode b_C_less 28 = .ok (.iload 6, 2) := by decide +kernel
theorem d_C_less_30 : decode b_C_less 30 = .ok (.iadd, 1) := by decide +kernel
theorem d_C_less_31 : decode b_C_less 31 = .ok (.iload_n 3, 1) := by decide +kernel
theorem d_C_less_32 : decode b_C_less 32 = .ok (.iload 6, 2) := by decide +kernel
theorem d_C_less_34 : decode b_C_less 34 = .ok (.iadd, 1) := by decide +kernel
theorem d_C_less_35 : decode b_C_less 35 = .ok (.iconst 1, 1) := by decide +kernel
theorem d_C_less_36 : decode b_C_less 36 = .ok (.invokevirtual 35, 3) := by decide +kernel
theorem d_C_less_39 : decode b_C_less 39 = .ok (.iload 5, 2) := by decide +kernel
theorem d_C_less_41 : decode b_C_less 41 = .ok (.ifCond .eq 16, 3) := by decide +kernel
theorem d_C_less_44 : decode b_C_less 44 = .ok (.iload 6, 2) := by decide +kernel
theorem d_C_less_46 : decode b_C_less 46 = .ok (.iload 4, 2) := by decide +kernel
theorem d_C_less_48 : decode b_C_less 48 = .ok (.iconst 1, 1) := by decide +kernel
theorem d_C_less_49 : decode b_C_less 49 = .ok (.isub, 1) := by decide +kernel
theorem d_C_less_50 : decode b_C_less 50 = .ok (.if_icmp .ne 7, 3) := by decide +kernel
theorem d_C_less_53 : decode b_C_less 53 = .ok (.iconst 1, 1) := by decide +kernel
theorem d_C_less_54 : decode b_C_less 54 = .ok (.goto 4, 3) := by decide +kernel
theorem d_C_less_57 : decode b_C_less 57 = .ok (.iconst 0, 1) := by decide +kernel
theorem d_C_less_58 : decode b_C_less 58 = .ok (.istore 7, 2) := by decide +kernel
theorem d_C_less_60 : decode b_C_less 60 = .ok (.aload_n 0, 1) := by decide +kernel
theorem d_C_less_61 : decode b_C_less 61 = .ok (.getfield 14, 3) := by decide +kernel
theorem d_C_less_64 : decode b_C_less 64 = .ok (.iload_n 1, 1) := by decide +kernel
theorem d_C_less_65 : decode b_C_less 65 = .ok (.sipush 256, 3) := by decide +kernel
theorem d_C_less_68 : decode b_C_less 68 = .ok (.iload 7, 2) := by decide +kernel
theorem d_C_less_70 : decode b_C_less 70 = .ok (.ifCond .eq 10, 3) := by decide +kernel
theorem d_C_less_73 : decode b_C_less 73 = .ok (.iload_n 2, 1) := by decide +kernel
theorem d_C_less_74 : decode b_C_less 74 = .ok (.iload 6, 2) := by decide +kernel
theorem d_C_less_76 : decode b_C_less 76 = .ok (.iadd, 1) := by decide +kernel
theorem d_C_less_77 : decode b_C_less 77 = .ok (.goto 7, 3) := by decide +kernel
theorem d_C_less_80 : decode b_C_less 80 = .ok (.iload_n 3, 1) := by decide +kernel
theorem d_C_less_81 : decode b_C_less 81 = .ok (.iload 6, 2) := by decide +kernel
theorem d_C_less_83 : decode b_C_less 83 = .ok (.iadd, 1) := by decide +kernel
theorem d_C_less_84 : decode b_C_less 84 = .ok (.iload_n 1, 1) := by decide +kernel
theorem d_C_less_85 : decode b_C_less 85 = .ok (.invokevirtual 44, 3) := by decide +kernel
theorem d_C_less_88 : decode b_C_less 88 = .ok (.iinc 6 1, 3) := by decide +kernel
theorem d_C_less_91 : decode b_C_less 91 = .ok (.goto (-78), 3) := by decide +kernel
theorem d_C_less_94 : decode b_C_less 94 = .ok (.return_, 1) := by decide +kernel
theorem d_C_atMost_0 : decode b_C_atMost 0 = .ok (.aload_n 0, 1) := by decide +kernel
theorem d_C_atMost_1 : decode b_C_atMost 1 = .ok (.iload_n 1, 1) := by decide +kernel
theorem d_C_atMost_2 : decode b_C_atMost 2 = .ok (.iload_n 3, 1) := by decide +kernel
theorem d_C_atMost_3 : decode b_C_atMost 3 = .ok (.iload_n 2, 1) := by decide +kernel
theorem d_C_atMost_4 : decode b_C_atMost 4 = .ok (.iload 4, 2) := by decide +kernel
theorem d_C_atMost_6 : decode b_C_atMost 6 = .ok (.iload 5, 2) := by decide +kernel
theorem d_C_atMost_8 : decode b_C_atMost 8 = .ok (.invokevirtual 51, 3) := by decide +kernel
theorem d_C_atMost_11 : decode b_C_atMost 11 = .ok (.aload_n 0, 1) := by decide +kernel
theorem d_C_atMost_12 : decode b_C_atMost 12 = .ok (.getfield 14, 3) := by decide +kernel
theorem d_C_atMost_15 : decode b_C_atMost 15 = .ok (.iload_n 1, 1) := by decide +kernel
theorem d_C_atMost_16 : decode b_C_atMost 16 = .ok (.iload_n 1, 1) := by decide +kernel
theorem d_C_atMost_17 : decode b_C_atMost 17 = .ok (.iconst 1, 1) := by decide +kernel
theorem d_C_atMost_18 : decode b_C_atMost 18 = .ok (.invokevirtual 28, 3) := by decide +kernel
theorem d_C_atMost_21 : decode b_C_atMost 21 = .ok (.return_, 1) := by decide +kernel
end
section
/-! the rows in the form of functions: numbers as nI n, answers as bI b, contracts as Fn -/
def bI (b : Bool) : Int32 := if b then 1 else 0
theorem bI_nar (b : Bool) : narrow .boolean (.int (bI b)) = .int (bI b) := by cases b <;> rfl
theorem bI_t : bI true = nI 1 := by decide +kernel
theorem bI_f : bI false = nI 0 := by decide +kernel
theorem bI_zero {b : Bool} (h : bI b = 0) : b = false := by cases b with
  | false => rfl
  | true => exact absurd h (by decide +kernel)
theorem bI_nzero {b : Bool} (h : ¬ bI b = 0) : b = true := by cases b with
  | true => rfl
  | false => exact absurd (by decide +kernel) h
theorem nI_zero {n : Nat} (hn : n < 2 ^ 31) (h : nI n = 0) : n = 0 := by
  rw [← nI_0] at h
  exact (nI_eq hn (by decide)).mp h
theorem z_le {x y : Int32} {X Y : Int} (hX : x.toInt = X) (hY : y.toInt = Y) : x ≤ y ↔ X ≤ Y := by
  rw [Int32.le_iff_toInt_le, hX, hY]
theorem z_lt {x y : Int32} {X Y : Int} (hX : x.toInt = X) (hY : y.toInt = Y) : x < y ↔ X < Y := by
  rw [Int32.lt_iff_toInt_lt, hX, hY]
theorem z_eq {x y : Int32} {X Y : Int} (hX : x.toInt = X) (hY : y.toInt = Y) : x = y ↔ X = Y := by
  rw [← hX, ← hY]
  exact Int32.toInt_inj.symm
theorem z_0 : (0 : Int32).toInt = 0 := by decide +kernel
theorem z_of {x : Int32} (h : 0 ≤ x.toInt) : x = nI x.toInt.toNat := by
  apply Int32.toInt_inj.mp
  have h2 : x.toInt < 2 ^ 31 := Int32.toInt_lt x
  rw [nI_toInt (by omega)]
  omega
theorem z_nat {x : Int32} {n : Nat} (h : 0 ≤ x.toInt) (h2 : x.toInt < (n : Int)) : ∃ j : Nat, j < n ∧ x = nI j := ⟨x.toInt.toNat, by omega, z_of h⟩
theorem n_shl_t : ∀ k, k < 31 → nI 1 <<< (nI k &&& 31) = nI (2 ^ k) := by decide +kernel
theorem n_amt : ∀ k, k < 32 → ((nI k &&& 31).toBitVec.smod 32).toNat = k := by decide +kernel
theorem n_shr_t {a k : Nat} (ha : a < 2 ^ 31) (hk : k < 32) : nI a >>> (nI k &&& 31) = nI (a / 2 ^ k) := pk_shrN ha _ k (n_amt k hk)
theorem n_and_t (a b : Nat) : nI a &&& nI b = nI (a &&& b) := by
  apply Int32.toBitVec_inj.mp
  show BitVec.ofNat 32 a &&& BitVec.ofNat 32 b = BitVec.ofNat 32 (a &&& b)
  exact BitVec.ofNat_and.symm
theorem n_or_t (a b : Nat) : nI a ||| nI b = nI (a ||| b) := by
  apply Int32.toBitVec_inj.mp
  show BitVec.ofNat 32 a ||| BitVec.ofNat 32 b = BitVec.ofNat 32 (a ||| b)
  exact BitVec.ofNat_or.symm
section NB
variable {p : Program} {l : Launch} {e : Env} {R : Room} {s : State} {m : MethodId} {args : Array Value} {below : List Frame} {meth : Method} {c : Code} {H : Heap} {locs : List Loc} {cells slots : Nat} {Q : State → Prop}
variable {cc : ByteArray} {pc : Nat} {ls : Array Slot} {rest : List Value} {D : va_G} {cl : List vw_C} {A : Nat → Prop} {a : Nat} {tys : List (ClassId × FieldType)} {ws : va_W} {H0 : Heap}
theorem n_add (hx : p.tables.exec = Jvm.exec) (hb : c.code = cc) {x y : Nat} (hdg : decode cc pc = .ok (.iadd, 1)) (k : W p l e R s m args below meth c H locs cells slots Q (F0 m (pc + 1) ls (.int (nI (x + y)) :: rest))) : W p l e R s m args below meth c H locs cells slots Q (F0 m pc ls (.int (nI y) :: .int (nI x) :: rest)) :=
  t_iadd hx hb hdg (nI_add x y) k
theorem n_sub (hx : p.tables.exec = Jvm.exec) (hb : c.code = cc) {x y : Nat} (h : y ≤ x) (hdg : decode cc pc = .ok (.isub, 1)) (k : W p l e R s m args below meth c H locs cells slots Q (F0 m (pc + 1) ls (.int (nI (x - y)) :: rest))) : W p l e R s m args below meth c H locs cells slots Q (F0 m pc ls (.int (nI y) :: .int (nI x) :: rest)) :=
  t_isub hx hb hdg (pk_sub h) k
theorem n_mul (hx : p.tables.exec = Jvm.exec) (hb : c.code = cc) {x y : Nat} (hdg : decode cc pc = .ok (.imul, 1)) (k : W p l e R s m args below meth c H locs cells slots Q (F0 m (pc + 1) ls (.int (nI (x * y)) :: rest))) : W p l e R s m args below meth c H locs cells slots Q (F0 m pc ls (.int (nI y) :: .int (nI x) :: rest)) :=
  t_imul hx hb hdg (pk_mul x y) k
theorem n_and (hx : p.tables.exec = Jvm.exec) (hb : c.code = cc) {x y : Nat} (hdg : decode cc pc = .ok (.iand, 1)) (k : W p l e R s m args below meth c H locs cells slots Q (F0 m (pc + 1) ls (.int (nI (x &&& y)) :: rest))) : W p l e R s m args below meth c H locs cells slots Q (F0 m pc ls (.int (nI y) :: .int (nI x) :: rest)) :=
  t_iand hx hb hdg (n_and_t x y) k
theorem n_or (hx : p.tables.exec = Jvm.exec) (hb : c.code = cc) {x y : Nat} (hdg : decode cc pc = .ok (.ior, 1)) (k : W p l e R s m args below meth c H locs cells slots Q (F0 m (pc + 1) ls (.int (nI (x ||| y)) :: rest))) : W p l e R s m args below meth c H locs cells slots Q (F0 m pc ls (.int (nI y) :: .int (nI x) :: rest)) :=
  lv_ior hx hb hdg (by rw [n_or_t]; exact k)
theorem n_shl1 (hx : p.tables.exec = Jvm.exec) (hb : c.code = cc) {y : Nat} (h : y < 31) (hdg : decode cc pc = .ok (.ishl, 1)) (k : W p l e R s m args below meth c H locs cells slots Q (F0 m (pc + 1) ls (.int (nI (2 ^ y)) :: rest))) : W p l e R s m args below meth c H locs cells slots Q (F0 m pc ls (.int (nI y) :: .int (nI 1) :: rest)) :=
  lv_ishl hx hb hdg (by rw [n_shl_t y h]; exact k)
theorem n_shr (hx : p.tables.exec = Jvm.exec) (hb : c.code = cc) {x y : Nat} (h0 : x < 2 ^ 31) (h : y < 32) (hdg : decode cc pc = .ok (.ishr, 1)) (k : W p l e R s m args below meth c H locs cells slots Q (F0 m (pc + 1) ls (.int (nI (x / 2 ^ y)) :: rest))) : W p l e R s m args below meth c H locs cells slots Q (F0 m pc ls (.int (nI y) :: .int (nI x) :: rest)) :=
  lv_ishr hx hb hdg (by rw [n_shr_t h0 h]; exact k)
theorem n_div (hx : p.tables.exec = Jvm.exec) (hb : c.code = cc) {x y : Nat} (h0 : x < 2 ^ 31) (h1 : 0 < y) (h : y < 2 ^ 31) (hdg : decode cc pc = .ok (.idiv, 1)) (k : W p l e R s m args below meth c H locs cells slots Q (F0 m (pc + 1) ls (.int (nI (x / y)) :: rest))) : W p l e R s m args below meth c H locs cells slots Q (F0 m pc ls (.int (nI y) :: .int (nI x) :: rest)) :=
  lv_idiv hx hb hdg (nI_ne0 h1 h) (by rw [pk_div h0 h1 h]; exact k)
theorem n_rem (hx : p.tables.exec = Jvm.exec) (hb : c.code = cc) {x y : Nat} (h0 : x < 2 ^ 31) (h1 : 0 < y) (h : y < 2 ^ 31) (hdg : decode cc pc = .ok (.irem, 1)) (k : W p l e R s m args below meth c H locs cells slots Q (F0 m (pc + 1) ls (.int (nI (x % y)) :: rest))) : W p l e R s m args below meth c H locs cells slots Q (F0 m pc ls (.int (nI y) :: .int (nI x) :: rest)) :=
  lv_irem hx hb hdg (nI_ne0 h1 h) (by rw [pk_rem h0 h1 h]; exact k)
theorem n_iald (hx : p.tables.exec = Jvm.exec) (hb : c.code = cc) (hK : va_K D cl tys s) (hP : va_P D cl ws H) (q0 t0 : Nat) {cA : ClassId} {n : Nat} {f : Nat → Int32} (ha : ws[q0]? = some (a, .inl (cA, n, .inl f))) (ht : tys[t0]? = some (cA, .int)) {i : Nat} (hi : i < n) (hn : n < 2 ^ 31) (hdg : decode cc pc = .ok (.iaload, 1))
    (kk : W p l e R s m args below meth c H locs cells slots Q (F0 m (pc + 1) ls (.int (f i) :: rest))) : W p l e R s m args below meth c H locs cells slots Q (F0 m pc ls (.int (nI i) :: .ref a :: rest)) :=
  va_iald hx hb hK hP q0 t0 ha ht (vp_in_nI hi hn) hdg (by rw [nI_clamp (by omega)]; exact kk)
theorem n_lald (hx : p.tables.exec = Jvm.exec) (hb : c.code = cc) (hK : va_K D cl tys s) (hP : va_P D cl ws H) (q0 t0 : Nat) {cA : ClassId} {n : Nat} {f : Nat → Int64} (ha : ws[q0]? = some (a, .inl (cA, n, .inr (.inl f)))) (ht : tys[t0]? = some (cA, .long)) {i : Nat} (hi : i < n) (hn : n < 2 ^ 31) (hdg : decode cc pc = .ok (.laload, 1))
    (kk : W p l e R s m args below meth c H locs cells slots Q (F0 m (pc + 1) ls (.long (f i) :: rest))) : W p l e R s m args below meth c H locs cells slots Q (F0 m pc ls (.int (nI i) :: .ref a :: rest)) :=
  va_lald hx hb hK hP q0 t0 ha ht (vp_in_nI hi hn) hdg (by rw [nI_clamp (by omega)]; exact kk)
theorem n_iast (hx : p.tables.exec = Jvm.exec) (hb : c.code = cc) (hK : va_K D cl tys s) (hP : va_P D cl ws H) (hD : va_D A ws) (hS : va_S A H0 H locs) (q0 t0 : Nat) {cA : ClassId} {n : Nat} {f f' : Nat → Int32} (ha : ws[q0]? = some (a, .inl (cA, n, .inl f))) (ht : tys[t0]? = some (cA, .int)) {i : Nat} {x : Int32} (hi : i < n) (hn : n < 2 ^ 31) (hf : upd f i x = f') (hdg : decode cc pc = .ok (.iastore, 1))
    {ws' : va_W} (hw : ws.set q0 (a, .inl (cA, n, .inl f')) = ws')
    (kk : ∀ (H1 : Heap) (locs1 : List Loc), va_P D cl ws' H1 → va_D A ws' → va_S A H0 H1 locs1 → W p l e R s m args below meth c H1 locs1 cells slots Q (F0 m (pc + 1) ls rest)) : W p l e R s m args below meth c H locs cells slots Q (F0 m pc ls (.int x :: .int (nI i) :: .ref a :: rest)) := by
  subst hf; subst hw
  refine va_iast hx hb hK hP hD hS q0 t0 ha ht (vp_in_nI hi hn) hdg (fun H1 locs1 h1 h2 h3 => kk H1 locs1 ?_ ?_ h3)
  · rw [nI_clamp (by omega)] at h1; exact h1
  · rw [nI_clamp (by omega)] at h2; exact h2
theorem n_last (hx : p.tables.exec = Jvm.exec) (hb : c.code = cc) (hK : va_K D cl tys s) (hP : va_P D cl ws H) (hD : va_D A ws) (hS : va_S A H0 H locs) (q0 t0 : Nat) {cA : ClassId} {n : Nat} {f f' : Nat → Int64} (ha : ws[q0]? = some (a, .inl (cA, n, .inr (.inl f)))) (ht : tys[t0]? = some (cA, .long)) {i : Nat} {x : Int64} (hi : i < n) (hn : n < 2 ^ 31) (hf : vp_updL f i x = f') (hdg : decode cc pc = .ok (.lastore, 1))
    {ws' : va_W} (hw : ws.set q0 (a, .inl (cA, n, .inr (.inl f'))) = ws')
    (kk : ∀ (H1 : Heap) (locs1 : List Loc), va_P D cl ws' H1 → va_D A ws' → va_S A H0 H1 locs1 → W p l e R s m args below meth c H1 locs1 cells slots Q (F0 m (pc + 1) ls rest)) : W p l e R s m args below meth c H locs cells slots Q (F0 m pc ls (.long x :: .int (nI i) :: .ref a :: rest)) := by
  subst hf; subst hw
  refine va_last hx hb hK hP hD hS q0 t0 ha ht (vp_in_nI hi hn) hdg (fun H1 locs1 h1 h2 h3 => kk H1 locs1 ?_ ?_ h3)
  · rw [nI_clamp (by omega)] at h1; exact h1
  · rw [nI_clamp (by omega)] at h2; exact h2
theorem z_icmp_ge (hx : p.tables.exec = Jvm.exec) (hb : c.code = cc) {x y : Int32} {X Y : Int} (hX : x.toInt = X) (hY : y.toInt = Y) {off : Int} {tgt : Nat} (hdg : decode cc pc = .ok (.if_icmp .ge off, 3)) (ht : (pc : Int) + off = (tgt : Int)) (kt : Y ≤ X → W p l e R s m args below meth c H locs cells slots Q (F0 m tgt ls rest)) (kf : X < Y → W p l e R s m args below meth c H locs cells slots Q (F0 m (pc + 3) ls rest)) : W p l e R s m args below meth c H locs cells slots Q (F0 m pc ls (.int y :: .int x :: rest)) :=
  lv_icmp_ge hx hb hdg ht (fun h => kt ((z_le hY hX).mp h)) (fun h => kf (Int.lt_of_not_ge (fun q => h ((z_le hY hX).mpr q))))
theorem z_icmp_lt (hx : p.tables.exec = Jvm.exec) (hb : c.code = cc) {x y : Int32} {X Y : Int} (hX : x.toInt = X) (hY : y.toInt = Y) {off : Int} {tgt : Nat} (hdg : decode cc pc = .ok (.if_icmp .lt off, 3)) (ht : (pc : Int) + off = (tgt : Int)) (kt : X < Y → W p l e R s m args below meth c H locs cells slots Q (F0 m tgt ls rest)) (kf : Y ≤ X → W p l e R s m args below meth c H locs cells slots Q (F0 m (pc + 3) ls rest)) : W p l e R s m args below meth c H locs cells slots Q (F0 m pc ls (.int y :: .int x :: rest)) :=
  lv_icmp_lt hx hb hdg ht (fun h => kt ((z_lt hX hY).mp h)) (fun h => kf (Int.le_of_not_gt (fun q => h ((z_lt hX hY).mpr q))))
theorem z_icmp_le (hx : p.tables.exec = Jvm.exec) (hb : c.code = cc) {x y : Int32} {X Y : Int} (hX : x.toInt = X) (hY : y.toInt = Y) {off : Int} {tgt : Nat} (hdg : decode cc pc = .ok (.if_icmp .le off, 3)) (ht : (pc : Int) + off = (tgt : Int)) (kt : X ≤ Y → W p l e R s m args below meth c H locs cells slots Q (F0 m tgt ls rest)) (kf : Y < X → W p l e R s m args below meth c H locs cells slots Q (F0 m (pc + 3) ls rest)) : W p l e R s m args below meth c H locs cells slots Q (F0 m pc ls (.int y :: .int x :: rest)) :=
  lv_icmp_le hx hb hdg ht (fun h => kt ((z_le hX hY).mp h)) (fun h => kf (Int.lt_of_not_ge (fun q => h ((z_le hX hY).mpr q))))
theorem z_icmp_gt (hx : p.tables.exec = Jvm.exec) (hb : c.code = cc) {x y : Int32} {X Y : Int} (hX : x.toInt = X) (hY : y.toInt = Y) {off : Int} {tgt : Nat} (hdg : decode cc pc = .ok (.if_icmp .gt off, 3)) (ht : (pc : Int) + off = (tgt : Int)) (kt : Y < X → W p l e R s m args below meth c H locs cells slots Q (F0 m tgt ls rest)) (kf : X ≤ Y → W p l e R s m args below meth c H locs cells slots Q (F0 m (pc + 3) ls rest)) : W p l e R s m args below meth c H locs cells slots Q (F0 m pc ls (.int y :: .int x :: rest)) :=
  lv_icmp_gt hx hb hdg ht (fun h => kt ((z_lt hY hX).mp h)) (fun h => kf (Int.le_of_not_gt (fun q => h ((z_lt hY hX).mpr q))))
theorem z_icmp_eq (hx : p.tables.exec = Jvm.exec) (hb : c.code = cc) {x y : Int32} {X Y : Int} (hX : x.toInt = X) (hY : y.toInt = Y) {off : Int} {tgt : Nat} (hdg : decode cc pc = .ok (.if_icmp .eq off, 3)) (ht : (pc : Int) + off = (tgt : Int)) (kt : X = Y → W p l e R s m args below meth c H locs cells slots Q (F0 m tgt ls rest)) (kf : ¬ X = Y → W p l e R s m args below meth c H locs cells slots Q (F0 m (pc + 3) ls rest)) : W p l e R s m args below meth c H locs cells slots Q (F0 m pc ls (.int y :: .int x :: rest)) :=
  lv_icmp_eq hx hb hdg ht (fun h => kt ((z_eq hX hY).mp h)) (fun h => kf (fun q => h ((z_eq hX hY).mpr q)))
theorem z_icmp_ne (hx : p.tables.exec = Jvm.exec) (hb : c.code = cc) {x y : Int32} {X Y : Int} (hX : x.toInt = X) (hY : y.toInt = Y) {off : Int} {tgt : Nat} (hdg : decode cc pc = .ok (.if_icmp .ne off, 3)) (ht : (pc : Int) + off = (tgt : Int)) (kt : ¬ X = Y → W p l e R s m args below meth c H locs cells slots Q (F0 m tgt ls rest)) (kf : X = Y → W p l e R s m args below meth c H locs cells slots Q (F0 m (pc + 3) ls rest)) : W p l e R s m args below meth c H locs cells slots Q (F0 m pc ls (.int y :: .int x :: rest)) :=
  lv_icmp_ne hx hb hdg ht (fun h => kt (fun q => h ((z_eq hX hY).mpr q))) (fun h => kf ((z_eq hX hY).mp h))
theorem z_if_lt (hx : p.tables.exec = Jvm.exec) (hb : c.code = cc) {x : Int32} {X : Int} (hX : x.toInt = X) {off : Int} {tgt : Nat} (hdg : decode cc pc = .ok (.ifCond .lt off, 3)) (ht : (pc : Int) + off = (tgt : Int)) (kt : X < 0 → W p l e R s m args below meth c H locs cells slots Q (F0 m tgt ls rest)) (kf : 0 ≤ X → W p l e R s m args below meth c H locs cells slots Q (F0 m (pc + 3) ls rest)) : W p l e R s m args below meth c H locs cells slots Q (F0 m pc ls (.int x :: rest)) :=
  lv_if_lt hx hb hdg ht (fun h => kt ((z_lt hX z_0).mp h)) (fun h => kf (Int.le_of_not_gt (fun q => h ((z_lt hX z_0).mpr q))))
theorem z_if_ge (hx : p.tables.exec = Jvm.exec) (hb : c.code = cc) {x : Int32} {X : Int} (hX : x.toInt = X) {off : Int} {tgt : Nat} (hdg : decode cc pc = .ok (.ifCond .ge off, 3)) (ht : (pc : Int) + off = (tgt : Int)) (kt : 0 ≤ X → W p l e R s m args below meth c H locs cells slots Q (F0 m tgt ls rest)) (kf : X < 0 → W p l e R s m args below meth c H locs cells slots Q (F0 m (pc + 3) ls rest)) : W p l e R s m args below meth c H locs cells slots Q (F0 m pc ls (.int x :: rest)) :=
  lv_if_ge hx hb hdg ht (fun h => kt ((z_le z_0 hX).mp h)) (fun h => kf (Int.lt_of_not_ge (fun q => h ((z_le z_0 hX).mpr q))))
theorem z_if_le (hx : p.tables.exec = Jvm.exec) (hb : c.code = cc) {x : Int32} {X : Int} (hX : x.toInt = X) {off : Int} {tgt : Nat} (hdg : decode cc pc = .ok (.ifCond .le off, 3)) (ht : (pc : Int) + off = (tgt : Int)) (kt : X ≤ 0 → W p l e R s m args below meth c H locs cells slots Q (F0 m tgt ls rest)) (kf : 0 < X → W p l e R s m args below meth c H locs cells slots Q (F0 m (pc + 3) ls rest)) : W p l e R s m args below meth c H locs cells slots Q (F0 m pc ls (.int x :: rest)) :=
  lv_if_le hx hb hdg ht (fun h => kt ((z_le hX z_0).mp h)) (fun h => kf (Int.lt_of_not_ge (fun q => h ((z_le hX z_0).mpr q))))
theorem z_if_gt (hx : p.tables.exec = Jvm.exec) (hb : c.code = cc) {x : Int32} {X : Int} (hX : x.toInt = X) {off : Int} {tgt : Nat} (hdg : decode cc pc = .ok (.ifCond .gt off, 3)) (ht : (pc : Int) + off = (tgt : Int)) (kt : 0 < X → W p l e R s m args below meth c H locs cells slots Q (F0 m tgt ls rest)) (kf : X ≤ 0 → W p l e R s m args below meth c H locs cells slots Q (F0 m (pc + 3) ls rest)) : W p l e R s m args below meth c H locs cells slots Q (F0 m pc ls (.int x :: rest)) :=
  lv_if_gt hx hb hdg ht (fun h => kt ((z_lt z_0 hX).mp h)) (fun h => kf (Int.le_of_not_gt (fun q => h ((z_lt z_0 hX).mpr q))))
theorem z_if_eq (hx : p.tables.exec = Jvm.exec) (hb : c.code = cc) {x : Int32} {X : Int} (hX : x.toInt = X) {off : Int} {tgt : Nat} (hdg : decode cc pc = .ok (.ifCond .eq off, 3)) (ht : (pc : Int) + off = (tgt : Int)) (kt : X = 0 → W p l e R s m args below meth c H locs cells slots Q (F0 m tgt ls rest)) (kf : ¬ X = 0 → W p l e R s m args below meth c H locs cells slots Q (F0 m (pc + 3) ls rest)) : W p l e R s m args below meth c H locs cells slots Q (F0 m pc ls (.int x :: rest)) :=
  lv_if_eq hx hb hdg ht (fun h => kt ((z_eq hX z_0).mp h)) (fun h => kf (fun q => h ((z_eq hX z_0).mpr q)))
theorem z_if_ne (hx : p.tables.exec = Jvm.exec) (hb : c.code = cc) {x : Int32} {X : Int} (hX : x.toInt = X) {off : Int} {tgt : Nat} (hdg : decode cc pc = .ok (.ifCond .ne off, 3)) (ht : (pc : Int) + off = (tgt : Int)) (kt : ¬ X = 0 → W p l e R s m args below meth c H locs cells slots Q (F0 m tgt ls rest)) (kf : X = 0 → W p l e R s m args below meth c H locs cells slots Q (F0 m (pc + 3) ls rest)) : W p l e R s m args below meth c H locs cells slots Q (F0 m pc ls (.int x :: rest)) :=
  lv_if_ne hx hb hdg ht (fun h => kt (fun q => h ((z_eq hX z_0).mpr q))) (fun h => kf ((z_eq hX z_0).mp h))
theorem b_if_eq (hx : p.tables.exec = Jvm.exec) (hb : c.code = cc) {x : Bool} {off : Int} {tgt : Nat} (hdg : decode cc pc = .ok (.ifCond .eq off, 3)) (ht : (pc : Int) + off = (tgt : Int)) (kt : x = false → W p l e R s m args below meth c H locs cells slots Q (F0 m tgt ls rest)) (kf : x = true → W p l e R s m args below meth c H locs cells slots Q (F0 m (pc + 3) ls rest)) : W p l e R s m args below meth c H locs cells slots Q (F0 m pc ls (.int (bI x) :: rest)) :=
  lv_if_eq hx hb hdg ht (fun h => kt (bI_zero h)) (fun h => kf (bI_nzero h))
theorem b_if_ne (hx : p.tables.exec = Jvm.exec) (hb : c.code = cc) {x : Bool} {off : Int} {tgt : Nat} (hdg : decode cc pc = .ok (.ifCond .ne off, 3)) (ht : (pc : Int) + off = (tgt : Int)) (kt : x = true → W p l e R s m args below meth c H locs cells slots Q (F0 m tgt ls rest)) (kf : x = false → W p l e R s m args below meth c H locs cells slots Q (F0 m (pc + 3) ls rest)) : W p l e R s m args below meth c H locs cells slots Q (F0 m pc ls (.int (bI x) :: rest)) :=
  lv_if_ne hx hb hdg ht (fun h => kt (bI_nzero h)) (fun h => kf (bI_zero h))
end NB
/-! contracts in the form of functions -/
def Fp (D : va_G) (cl : List vw_C) (tys : List (ClassId × FieldType)) (w0 : va_W) (sz : Nat) (av : List Value) (X : State → Prop) : Array Value → State → Prop := va_Pc av (fun U => U.heap.size = sz ∧ va_P D cl w0 U.heap ∧ va_K D cl tys U ∧ va_D (fun _ => True) w0 ∧ X U)
def Fq (D : va_G) (cl : List vw_C) (tys : List (ClassId × FieldType)) (w0 w1 : va_W) (sz : Nat) (ans : Option Value) : Array Value → State → Outcome → State → Prop := fun _ st oc t => oc = .returned ans ∧ va_P D cl w1 t.heap ∧ va_K D cl tys t ∧ va_D (va_A w0 sz) w1 ∧ va_F (va_A w0 sz) st t
def Fn (l : Launch) (y : MethodName) (wd : List Cond) (rm : Room) (D : va_G) (cl : List vw_C) (tys : List (ClassId × FieldType)) (av : List Value) (w0 : va_W) (X : State → Prop) (ans : Option Value) (w1 : va_W) : Prop := ∀ sz : Nat, Met l y wd rm (Fp D cl tys w0 sz av X) (Fq D cl tys w0 w1 sz ans) 0 0 (va_A w0 sz)
abbrev XT : State → Prop := fun _ => True
def Xok (X : State → Prop) : Prop := ∀ (u U : State), u.vm = U.vm → U.heap = u.heap → X u → X U
theorem XT_ok : Xok XT := fun _ _ _ _ _ => trivial
theorem Fp_blind {D : va_G} {cl : List vw_C} {tys : List (ClassId × FieldType)} {w0 : va_W} {sz : Nat} {av : List Value} {X : State → Prop} (hX : Xok X) : FrameBlind (Fp D cl tys w0 sz av X) := by
  intro a U g mk h
  obtain ⟨h0, h1, h2, h3, h4, h5⟩ := h
  exact ⟨h0, h1, h2, va_K.moved (u := U) (U := U.calling g mk a) (Vm.Alike.refl U.vm) h3, h4, hX U (U.calling g mk a) rfl rfl h5⟩
theorem Fn.of {l : Launch} {y : MethodName} {wd wd' : List Cond} {rm : Room} {D : va_G} {cl : List vw_C} {tys : List (ClassId × FieldType)} {av : List Value} {w0 w1 : va_W} {X : State → Prop} {ans : Option Value} {cc : ByteArray} {maxL : Nat} {ret : Option FieldType}
    (hy : plainName y.cls = true) (hw : wd = Cond.code y cc maxL ret :: wd') (hlen : (lg_sl av).length ≤ maxL)
    (body : ∀ (p : Program) (e : Env) (s : State) (m : MethodId) (below : List Frame) (meth : Method) (c : Code) (A : Nat → Prop) (ls : Array Slot), p.tables.exec = Jvm.exec → c.code = cc → c.maxLocals = maxL → meth.sig.returnType = ret → (∀ w ∈ wd, w.before av.toArray s = true) → s.vm.findClass y.cls = some m.cls → meth.locks = false → meth.name = y.name → va_P D cl w0 s.heap → va_K D cl tys s → va_D A w0 → va_S A s.heap s.heap [] → (∀ q : Nat, s.heap.size ≤ q → A q) → A = va_A w0 s.heap.size → X s → lv_has ls maxL (lv_args 0 av) →
      W p l e rm s m av.toArray below meth c s.heap [] 0 0 (MQ below (Fq D cl tys w0 w1 s.heap.size ans) av.toArray s 0 0 (va_A w0 s.heap.size)) (F0 m 0 ls [])) : Fn l y wd rm D cl tys av w0 X ans w1 := by
  intro sz
  refine Met.ofW (cc := cc) (maxL := maxL) (ret := ret) hy hw ?_
  intro p e s m args below meth c s₁ B hml hv
  obtain ⟨rfl, hsz, hP, hK, hD0, hX⟩ := hv
  subst hsz
  have hl := lv_entry av (n := maxL) hlen
  rw [lg_entry_eq]
  exact body p e s m below meth c _ _ B.exec B.bytes hml B.returns (atoms_spec (ws := wd) B.pre) (findClass_of_methodNamed B.named) B.notSynchronized (name_of_methodNamed B.named B.method).1 hP hK hD0.self va_S.rf (fun q h => Or.inr h) rfl hX hl
section FR
variable {p : Program} {l : Launch} {e : Env} {R : Room} {s : State} {m : MethodId} {args : Array Value} {below : List Frame} {meth : Method} {c : Code} {H : Heap} {locs : List Loc} {cells slots : Nat} {Q : State → Prop}
variable {cc : ByteArray} {pc : Nat} {ls : Array Slot} {rest : List Value} {D : va_G} {cl : List vw_C} {A : Nat → Prop} {a : Nat} {tys : List (ClassId × FieldType)} {ws w0 w1 : va_W} {H0 : Heap} {ans : Option Value}
theorem fn_vret (hx : p.tables.exec = Jvm.exec) (hb : c.code = cc) (hr : meth.sig.returnType = none) (hlocks : meth.locks = false) (hAe : A = va_A w0 s.heap.size) (hK : va_K D cl tys s) (hP : va_P D cl w1 H) (hD : va_D A w1) (hS : va_S A s.heap H locs) (hdg : decode cc pc = .ok (.return_, 1)) : W p l e R s m args below meth c H locs 0 0 (MQ below (Fq D cl tys w0 w1 s.heap.size none) args s 0 0 (va_A w0 s.heap.size)) (F0 m pc ls []) := by
  subst hAe
  exact W.vret hx hb hr (fun t ht hW => ⟨rfl, by rw [ht]; exact hP, va_K.moved hW.alike hK, hD, hS.F ht⟩) hS.2.2 hdg hlocks
theorem fn_iret (hx : p.tables.exec = Jvm.exec) (hb : c.code = cc) (hr : meth.sig.returnType = some .int) (hlocks : meth.locks = false) (hAe : A = va_A w0 s.heap.size) (hK : va_K D cl tys s) (hP : va_P D cl w1 H) (hD : va_D A w1) (hS : va_S A s.heap H locs) {v v' : Int32} (hv : v = v') (hdg : decode cc pc = .ok (.ireturn, 1)) : W p l e R s m args below meth c H locs 0 0 (MQ below (Fq D cl tys w0 w1 s.heap.size (some (.int v'))) args s 0 0 (va_A w0 s.heap.size)) (F0 m pc ls [.int v]) := by
  subst hAe; subst hv
  exact W.iret hx hb hr (fun t ht hW => ⟨rfl, by rw [ht]; exact hP, va_K.moved hW.alike hK, hD, hS.F ht⟩) hS.2.2 hdg hlocks
theorem fn_zret (hx : p.tables.exec = Jvm.exec) (hb : c.code = cc) (hr : meth.sig.returnType = some .boolean) (hlocks : meth.locks = false) (hAe : A = va_A w0 s.heap.size) (hK : va_K D cl tys s) (hP : va_P D cl w1 H) (hD : va_D A w1) (hS : va_S A s.heap H locs) {v : Int32} {b : Bool} (hv : v = bI b) (hdg : decode cc pc = .ok (.ireturn, 1)) : W p l e R s m args below meth c H locs 0 0 (MQ below (Fq D cl tys w0 w1 s.heap.size (some (.int (bI b)))) args s 0 0 (va_A w0 s.heap.size)) (F0 m pc ls [.int v]) := by
  subst hAe; subst hv
  exact W.zret hx hb hr (bI_nar b) (fun t ht hW => ⟨rfl, by rw [ht]; exact hP, va_K.moved hW.alike hK, hD, hS.F ht⟩) hS.2.2 hdg hlocks
theorem fn_lret (hx : p.tables.exec = Jvm.exec) (hb : c.code = cc) (hr : meth.sig.returnType = some .long) (hlocks : meth.locks = false) (hAe : A = va_A w0 s.heap.size) (hK : va_K D cl tys s) (hP : va_P D cl w1 H) (hD : va_D A w1) (hS : va_S A s.heap H locs) {v v' : Int64} (hv : v = v') (hdg : decode cc pc = .ok (.lreturn, 1)) : W p l e R s m args below meth c H locs 0 0 (MQ below (Fq D cl tys w0 w1 s.heap.size (some (.long v'))) args s 0 0 (va_A w0 s.heap.size)) (F0 m pc ls [.long v]) := by
  subst hAe; subst hv
  exact W.lret hx hb hr (fun t ht hW => ⟨rfl, by rw [ht]; exact hP, va_K.moved hW.alike hK, hD, hS.F ht⟩) hS.2.2 hdg hlocks
variable {st0 : List Value} {av : List Value} {tysc : List (ClassId × FieldType)} {wc wr ws' : va_W} {X : State → Prop}
theorem fn_call {aa : Array Value} (hr : va_Run p l e R s m args below meth c H locs cells slots 0 0 (F0 m pc ls st0) rest (Fq D cl tysc wc w1 H.size ans aa) (va_A wc H.size)) (hP : va_P D cl ws H) (hD : va_D A ws) (hS : va_S A H0 H locs) (hA : ∀ q : Nat, H0.size ≤ q → A q) (isC isR is2 : List Nat) (hC : isC.map (fun i => ws[i]?) = wc.map some) (hR : isR.map (fun i => ws[i]?) = wr.map some) (hn : va_nd isR = true) (hdis : ∀ i ∈ isR, i ∉ isC) (hn2 : va_nd is2 = true) (h2 : is2.map (fun i => (wr ++ w1)[i]?) = ws'.map some)
    {st1 : List Value} (hst : ans.toList ++ rest = st1) (kk : ∀ (H1 : Heap) (locs1 : List Loc), va_P D cl ws' H1 → va_D A ws' → va_S A H0 H1 locs1 → W p l e R s m args below meth c H1 locs1 cells slots Q (F0 m (pc + 3) ls st1)) : W p l e R s m args below meth c H locs cells slots Q (F0 m pc ls st0) := by
  intro T hT X'
  obtain ⟨v, st₀, t, T', L, h0, X', hL, e1, e2, ⟨hv, hP1, hK1, hD1, hz, hk⟩, st⟩ := hr T hT X'
  cases hv
  subst hst
  rw [h0] at hz hk
  rw [← e1] at hz hk hP1
  have hFc := va_free (wc := wc) hD hS hA isC hC
  obtain ⟨hP2, hD2⟩ := va_join (wr := wr) (w1 := w1) hP hD isC isR hC hR hn hdis hk hFc hP1 hD1
  have hP3 : va_P D cl ws' T'.heap := by
    intro k q hq
    have h1 : (is2.map (fun i => (wr ++ w1)[i]?))[k]? = some (some q) := by rw [h2, List.getElem?_map, hq]; rfl
    rw [List.getElem?_map] at h1
    cases hi : is2[k]? with
    | none => rw [hi] at h1; cases h1
    | some i => rw [hi] at h1; exact hP2 i q (Option.some.inj h1)
  obtain ⟨t2, a1, b1⟩ := kk T'.heap (locs ++ L) hP3 (hD2.sub is2 hn2 h2)
    ⟨Nat.le_trans hS.1 hz, fun q h1 h2 => by rw [hk q (Nat.lt_of_lt_of_le h1 hS.1) (fun z => h2 (hFc q z))]; exact hS.2.1 q h1 h2, fun q hq => by
      rcases List.mem_append.mp hq with h | h
      · exact hS.2.2 q h
      · exact hFc _ (hL q h)⟩ T' rfl X'
  exact ⟨t2, st t2 a1, b1⟩
theorem fn_pre (hX : Xok X) {tcs : List Nat} (hK : va_K D cl tys s) (hKc : tcs.filterMap (fun i => tys[i]?) = tysc) (hP : va_P D cl ws H) (hD : va_D A ws) (isC : List Nat) (hnC : va_nd isC = true) (hC : isC.map (fun i => ws[i]?) = wc.map some) (hXs : ∀ U : State, U.heap = H → s.WarmedH U.vm → X U) : FrameBlind (Fp D cl tysc wc H.size av X) ∧ ∀ U : State, U.heap = H → s.WarmedH U.vm → Fp D cl tysc wc H.size av X av.toArray U := by
  refine ⟨Fp_blind hX, fun U hU hW => ⟨rfl, by rw [hU], ?_, va_K.moved hW.alike (hK.sub tcs hKc), (hD.sub isC hnC hC).weaken (fun _ _ _ _ => trivial), hXs U hU hW⟩⟩
  rw [hU]
  intro k q hq
  have h1 : (isC.map (fun i => ws[i]?))[k]? = some (some q) := by rw [hC, List.getElem?_map, hq]; rfl
  rw [List.getElem?_map] at h1
  cases hi : isC[k]? with
  | none => rw [hi] at h1; cases h1
  | some i => rw [hi] at h1; exact hP i q (Option.some.inj h1)
variable {y : MethodName} {bytes : ByteArray} {maxL nL n index : Nat} {ret : Option FieldType} {wd : List Cond} {rm : Room} {Ts : List Cond} {own C host : String} {b : Addr} {As : List Value}
theorem fn_V (SS : CallFix p m c cc nL s args Ts own) (h : Fn l y wd rm D cl tysc (.ref b :: As) wc X ans w1) (cw : CallW R s args own C index y bytes maxL ret wd rm 0 0 n) (hX : Xok X) (hXs : ∀ U : State, U.heap = H → s.WarmedH U.vm → X U)
    (hK : va_K D cl tys s) (hP : va_P D cl ws H) (hD : va_D A ws) (hS : va_S A H0 H locs) (hA : ∀ q : Nat, H0.size ≤ q → A q) (q0 ci : Nat) {q : vw_C} {fs : List Value} (hci : cl[ci]? = some q) (hqC : q.1 = C) (he : ws[q0]? = some (b, .inr (ci, fs)))
    (tcs isC isR is2 : List Nat) (hKc : tcs.filterMap (fun i => tys[i]?) = tysc) (hnC : va_nd isC = true) (hC : isC.map (fun i => ws[i]?) = wc.map some) (hR : isR.map (fun i => ws[i]?) = wr.map some) (hn : va_nd isR = true) (hdis : ∀ i ∈ isR, i ∉ isC) (hn2 : va_nd is2 = true) (h2 : is2.map (fun i => (wr ++ w1)[i]?) = ws'.map some)
    (hlen : As.length = n) (hsize : ls.size = nL) (hstack : st0 = As.reverse ++ .ref b :: rest) (hW : (rest.map fun v => v.category).sum ≤ 8) (hdg : decode cc pc = .ok (.invokevirtual index, 3)) (hf : cells ≤ R.cells ∧ slots ≤ R.slots)
    {st1 : List Value} (hst : ans.toList ++ rest = st1) (kk : ∀ (H1 : Heap) (locs1 : List Loc), va_P D cl ws' H1 → va_D A ws' → va_S A H0 H1 locs1 → W p l e R s m args below meth c H1 locs1 cells slots Q (F0 m (pc + 3) ls st1)) : W p l e R s m args below meth c H locs cells slots Q (F0 m pc ls st0) := by
  have hpre := fn_pre (av := .ref b :: As) hX hK hKc hP hD isC hnC hC hXs
  refine fn_call (va_runV (As := As) (rest := rest) SS (h H.size) cw ⟨hpre.1, ?_, hpre.2⟩ rfl hlen hsize hstack (lv_room hW) hdg hf) hP hD hS hA isC isR is2 hC hR hn hdis hn2 h2 hst kk
  subst hqC
  exact va_recv hK hP hci he
theorem fn_VN (SS : CallFix p m c cc nL s args Ts own) (h : Fn l y wd rm D cl tysc (.ref b :: As) wc X ans w1) (cw : va_CN R s args own index y host bytes maxL ret wd rm 0 0 n ∧ (Cond.instanceMethod y).before args s = true ∧ (Cond.selects C y y).before args s = true) (hX : Xok X) (hXs : ∀ U : State, U.heap = H → s.WarmedH U.vm → X U)
    (hK : va_K D cl tys s) (hP : va_P D cl ws H) (hD : va_D A ws) (hS : va_S A H0 H locs) (hA : ∀ q : Nat, H0.size ≤ q → A q) (q0 ci : Nat) {q : vw_C} {fs : List Value} (hci : cl[ci]? = some q) (hqC : q.1 = C) (he : ws[q0]? = some (b, .inr (ci, fs)))
    (tcs isC isR is2 : List Nat) (hKc : tcs.filterMap (fun i => tys[i]?) = tysc) (hnC : va_nd isC = true) (hC : isC.map (fun i => ws[i]?) = wc.map some) (hR : isR.map (fun i => ws[i]?) = wr.map some) (hn : va_nd isR = true) (hdis : ∀ i ∈ isR, i ∉ isC) (hn2 : va_nd is2 = true) (h2 : is2.map (fun i => (wr ++ w1)[i]?) = ws'.map some)
    (hlen : As.length = n) (hsize : ls.size = nL) (hstack : st0 = As.reverse ++ .ref b :: rest) (hW : (rest.map fun v => v.category).sum ≤ 8) (hdg : decode cc pc = .ok (.invokevirtual index, 3)) (hf : cells ≤ R.cells ∧ slots ≤ R.slots)
    {st1 : List Value} (hst : ans.toList ++ rest = st1) (kk : ∀ (H1 : Heap) (locs1 : List Loc), va_P D cl ws' H1 → va_D A ws' → va_S A H0 H1 locs1 → W p l e R s m args below meth c H1 locs1 cells slots Q (F0 m (pc + 3) ls st1)) : W p l e R s m args below meth c H locs cells slots Q (F0 m pc ls st0) := by
  have hpre := fn_pre (av := .ref b :: As) hX hK hKc hP hD isC hnC hC hXs
  refine fn_call (va_runVN (As := As) (rest := rest) SS (h H.size) cw ⟨hpre.1, ?_, hpre.2⟩ rfl hlen hsize hstack (lv_room hW) hdg hf) hP hD hS hA isC isR is2 hC hR hn hdis hn2 h2 hst kk
  subst hqC
  exact va_recv hK hP hci he
theorem fn_S (SS : CallFix p m c cc nL s args Ts own) (h : Fn l y wd rm D cl tysc As wc X ans w1) (cw : CallB R s args own index y bytes maxL ret wd rm 0 0 n ∧ (Cond.static y).before args s = true) (hX : Xok X) (hXs : ∀ U : State, U.heap = H → s.WarmedH U.vm → X U)
    (hK : va_K D cl tys s) (hP : va_P D cl ws H) (hD : va_D A ws) (hS : va_S A H0 H locs) (hA : ∀ q : Nat, H0.size ≤ q → A q)
    (tcs isC isR is2 : List Nat) (hKc : tcs.filterMap (fun i => tys[i]?) = tysc) (hnC : va_nd isC = true) (hC : isC.map (fun i => ws[i]?) = wc.map some) (hR : isR.map (fun i => ws[i]?) = wr.map some) (hn : va_nd isR = true) (hdis : ∀ i ∈ isR, i ∉ isC) (hn2 : va_nd is2 = true) (h2 : is2.map (fun i => (wr ++ w1)[i]?) = ws'.map some)
    (hlen : As.length = n) (hsize : ls.size = nL) (hstack : st0 = As.reverse ++ rest) (hW : (rest.map fun v => v.category).sum ≤ 8) (hdg : decode cc pc = .ok (.invokestatic index, 3)) (hf : cells ≤ R.cells ∧ slots ≤ R.slots)
    {st1 : List Value} (hst : ans.toList ++ rest = st1) (kk : ∀ (H1 : Heap) (locs1 : List Loc), va_P D cl ws' H1 → va_D A ws' → va_S A H0 H1 locs1 → W p l e R s m args below meth c H1 locs1 cells slots Q (F0 m (pc + 3) ls st1)) : W p l e R s m args below meth c H locs cells slots Q (F0 m pc ls st0) := by
  have hpre := fn_pre (av := As) hX hK hKc hP hD isC hnC hC hXs
  exact fn_call (va_runS (As := As) (rest := rest) SS (h H.size) cw hpre rfl hlen hsize hstack (lv_room hW) hdg hf) hP hD hS hA isC isR is2 hC hR hn hdis hn2 h2 hst kk
end FR
/-! loops, and the rows of the sets as functions -/
theorem lg_eq0 {x y : Int64} : lg_cmp x y = 0 ↔ x = y := lg_cmp_eq x y
section LP
variable {p : Program} {l : Launch} {e : Env} {R : Room} {s : State} {m : MethodId} {args : Array Value} {below : List Frame} {meth : Method} {c : Code} {H : Heap} {locs : List Loc} {cells slots : Nat} {Q : State → Prop}
variable {cc : ByteArray} {pc : Nat} {ls : Array Slot} {rest : List Value}
theorem l_if_eq (hx : p.tables.exec = Jvm.exec) (hb : c.code = cc) {x y : Int64} {off : Int} {tgt : Nat} (hdg : decode cc pc = .ok (.ifCond .eq off, 3)) (ht : (pc : Int) + off = (tgt : Int)) (kt : x = y → W p l e R s m args below meth c H locs cells slots Q (F0 m tgt ls rest)) (kf : ¬ x = y → W p l e R s m args below meth c H locs cells slots Q (F0 m (pc + 3) ls rest)) : W p l e R s m args below meth c H locs cells slots Q (F0 m pc ls (.int (lg_cmp x y) :: rest)) :=
  lv_if_eq hx hb hdg ht (fun h => kt (lg_eq0.mp h)) (fun h => kf (fun q => h (lg_eq0.mpr q)))
theorem l_if_ne (hx : p.tables.exec = Jvm.exec) (hb : c.code = cc) {x y : Int64} {off : Int} {tgt : Nat} (hdg : decode cc pc = .ok (.ifCond .ne off, 3)) (ht : (pc : Int) + off = (tgt : Int)) (kt : ¬ x = y → W p l e R s m args below meth c H locs cells slots Q (F0 m tgt ls rest)) (kf : x = y → W p l e R s m args below meth c H locs cells slots Q (F0 m (pc + 3) ls rest)) : W p l e R s m args below meth c H locs cells slots Q (F0 m pc ls (.int (lg_cmp x y) :: rest)) :=
  lv_if_ne hx hb hdg ht (fun h => kt (fun q => h (lg_eq0.mpr q))) (fun h => kf (lg_eq0.mp h))
theorem w_loop (pc : Nat) (st : List Value) (N : Nat) (J : Nat → Heap → List Loc → Array Slot → Prop)
    (hs : ∀ i : Nat, i ≤ N → (∀ (H : Heap) (locs : List Loc) (ls : Array Slot), i < N → J (i + 1) H locs ls → W p l e R s m args below meth c H locs cells slots Q (F0 m pc ls st)) → ∀ (H : Heap) (locs : List Loc) (ls : Array Slot), J i H locs ls → W p l e R s m args below meth c H locs cells slots Q (F0 m pc ls st)) :
    ∀ i : Nat, i ≤ N → ∀ (H : Heap) (locs : List Loc) (ls : Array Slot), J i H locs ls → W p l e R s m args below meth c H locs cells slots Q (F0 m pc ls st) := by
  have main : ∀ n i : Nat, i ≤ N → N < i + n → ∀ (H : Heap) (locs : List Loc) (ls : Array Slot), J i H locs ls → W p l e R s m args below meth c H locs cells slots Q (F0 m pc ls st) := by
    intro n
    induction n with
    | zero => intro i h1 h2; exact absurd h2 (by omega)
    | succ n ih =>
      intro i h1 h2
      exact hs i h1 (fun H locs ls h3 h4 => ih (i + 1) h3 (by omega) H locs ls h4)
  intro i hi
  exact main (N + 1) i hi (by omega)
end LP
def rset (g : Nat → Int64) (to n : Nat) (w : Nat → Int64) : Nat → Int64 := fun j => if to * 16 ≤ j ∧ j < to * 16 + n then g (j - to * 16) else w j
theorem rset_0 (g : Nat → Int64) (to : Nat) (w : Nat → Int64) : rset g to 0 w = w := by
  funext j
  unfold rset
  rw [if_neg (by omega)]
theorem rset_st (g : Nat → Int64) (to i : Nat) (w : Nat → Int64) : vp_updL (rset g to i w) (to * 16 + i) (g i) = rset g to (i + 1) w := by
  funext j
  unfold vp_updL rset
  by_cases h : j = to * 16 + i
  · subst h
    rw [if_pos rfl, if_pos (by omega), show to * 16 + i - to * 16 = i by omega]
  · rw [if_neg h]
    by_cases h2 : to * 16 ≤ j ∧ j < to * 16 + i
    · rw [if_pos h2, if_pos (by omega)]
    · rw [if_neg h2, if_neg (by omega)]
theorem rset_rd (g : Nat → Int64) {to a i N : Nat} (w : Nat → Int64) (h : to ≤ a ∨ a * 16 + N ≤ to * 16) (hi : i < N) : rset g to i w (a * 16 + i) = w (a * 16 + i) := by
  unfold rset
  rw [if_neg (by omega)]
def bL (b : Bool) : Int64 := if b then -1 else 0
def oFill (al : Bool) (to rows : Nat) (w : Nat → Int64) : Nat → Int64 := rset (fun _ => bL al) to (rows * 16) w
def wbpT (k : Nat) : Int64 := if k = 0 then -6148914691236517206 else if k = 1 then -3689348814741910324 else if k = 2 then -1085102592571150096 else if k = 3 then -71777214294589696 else if k = 4 then -281470681808896 else -4294967296
def wbp (i place : Nat) : Int64 := if place < 6 then wbpT place else if i / 2 ^ (place - 6) % 2 = 1 then -1 else 0
def oPlace (to place : Nat) (w : Nat → Int64) : Nat → Int64 := rset (fun i => wbp i place) to 16 w
def oCopy (to a rows : Nat) (w : Nat → Int64) : Nat → Int64 := rset (fun i => w (a * 16 + i)) to (rows * 16) w
def oTurn (to a rows : Nat) (w : Nat → Int64) : Nat → Int64 := rset (fun i => w (a * 16 + i) ^^^ (-1)) to (rows * 16) w
def oAnd (to a b rows : Nat) (w : Nat → Int64) : Nat → Int64 := rset (fun i => w (a * 16 + i) &&& w (b * 16 + i)) to (rows * 16) w
def oOr (to a b rows : Nat) (w : Nat → Int64) : Nat → Int64 := rset (fun i => w (a * 16 + i) ||| w (b * 16 + i)) to (rows * 16) w
def oXor (to a b rows : Nat) (w : Nat → Int64) : Nat → Int64 := rset (fun i => w (a * 16 + i) ^^^ w (b * 16 + i)) to (rows * 16) w
def oChoose (to cd ye no : Nat) (w : Nat → Int64) : Nat → Int64 := rset (fun i => (w (cd * 16 + i) &&& w (ye * 16 + i)) ||| ((w (cd * 16 + i) ^^^ (-1)) &&& w (no * 16 + i))) to 16 w
def oRemove (to a : Nat) (w : Nat → Int64) : Nat → Int64 := rset (fun i => w (to * 16 + i) &&& (w (a * 16 + i) ^^^ (-1))) to 16 w
def pNone (w : Nat → Int64) (a b : Nat) : Bool := (List.range 16).all (fun i => decide (w (a * 16 + i) &&& w (b * 16 + i) = 0))
def pWithin (w : Nat → Int64) (a b : Nat) : Bool := (List.range 16).all (fun i => decide (w (a * 16 + i) &&& (w (b * 16 + i) ^^^ (-1)) = 0))
theorem all16 {P : Nat → Bool} : (List.range 16).all P = true ↔ ∀ i, i < 16 → P i = true := by
  rw [List.all_eq_true]
  exact ⟨fun h i hi => h i (List.mem_range.mpr hi), fun h i hi => h i (List.mem_range.mp hi)⟩
theorem pNone_all {w : Nat → Int64} {a b : Nat} : pNone w a b = true ↔ ∀ i, i < 16 → w (a * 16 + i) &&& w (b * 16 + i) = 0 := by
  unfold pNone
  rw [all16]
  exact ⟨fun h i hi => of_decide_eq_true (h i hi), fun h i hi => decide_eq_true (h i hi)⟩
theorem pWithin_all {w : Nat → Int64} {a b : Nat} : pWithin w a b = true ↔ ∀ i, i < 16 → w (a * 16 + i) &&& (w (b * 16 + i) ^^^ (-1)) = 0 := by
  unfold pWithin
  rw [all16]
  exact ⟨fun h i hi => of_decide_eq_true (h i hi), fun h i hi => decide_eq_true (h i hi)⟩
def pBit (w : Nat → Int64) (r x : Nat) : Bool := (w (r * 16 + x / 64)).toBitVec.getLsbD (x % 64)
def lowB (x : Int64) : Nat → Nat → Nat
  | 0, k => k
  | n + 1, k => if x.toBitVec.getLsbD k = true then k else lowB x n (k + 1)
def lowW (w : Nat → Int64) (r : Nat) : Nat → Nat → Nat
  | 0, _ => 0
  | n + 1, i => if w (r * 16 + i) = 0 then lowW w r n (i + 1) else i * 64 + lowB (w (r * 16 + i)) 63 0
def pLow (w : Nat → Int64) (r : Nat) : Nat := lowW w r 16 0
def cAdd (to a b : Nat) (w : Nat → Int64) : Nat → Int64 := oOr 257 257 259 1 (oAnd 257 257 258 1 (oXor to 258 257 1 (oAnd 259 a b 1 (oXor 258 a b 1 w))))
def cSumN (to a b : Nat) : Nat → (Nat → Int64) → (Nat → Int64)
  | 0, w => w
  | k + 1, w => cAdd (to + k) (a + k) (b + k) (cSumN to a b k w)
def cSum (to a b width : Nat) (w : Nat → Int64) : Nat → Int64 := cSumN to a b width (oFill false 257 1 w)
def cDiffN (to a b : Nat) : Nat → (Nat → Int64) → (Nat → Int64)
  | 0, w => w
  | k + 1, w => cAdd (to + k) (a + k) 256 (oTurn 256 (b + k) 1 (cDiffN to a b k w))
def cDiff (to a b width : Nat) (w : Nat → Int64) : Nat → Int64 := cDiffN to a b width (oFill true 257 1 w)
def cProdI (to a b sh : Nat) : Nat → (Nat → Int64) → (Nat → Int64)
  | 0, w => w
  | n + 1, w => cAdd (to + (sh + n)) (to + (sh + n)) 256 (oAnd 256 (a + (sh + n) - sh) (b + sh) 1 (cProdI to a b sh n w))
def cProdO (to a b width : Nat) : Nat → (Nat → Int64) → (Nat → Int64)
  | 0, w => w
  | sh + 1, w => cProdI to a b sh (width - sh) (oFill false 257 1 (cProdO to a b width sh w))
def cProd (to a b width : Nat) (w : Nat → Int64) : Nat → Int64 := cProdO to a b width width (oFill false to width w)
def cUpN (to a way : Nat) : Nat → (Nat → Int64) → (Nat → Int64)
  | 0, w => w
  | k + 1, w => if k < way then oFill false (to + k) 1 (cUpN to a way k w) else oCopy (to + k) (a + k - way) 1 (cUpN to a way k w)
def cDownN (to a width way : Nat) (sg : Bool) : Nat → (Nat → Int64) → (Nat → Int64)
  | 0, w => w
  | k + 1, w => if k + way < width then oCopy (to + k) (a + k + way) 1 (cDownN to a width way sg k w) else if sg = true then oCopy (to + k) (a + width - 1) 1 (cDownN to a width way sg k w) else oFill false (to + k) 1 (cDownN to a width way sg k w)
def cChoN (to cd ye no : Nat) : Nat → (Nat → Int64) → (Nat → Int64)
  | 0, w => w
  | k + 1, w => oChoose (to + k) cd (ye + k) (no + k) (cChoN to cd ye no k w)
def cEqN (to a b : Nat) : Nat → (Nat → Int64) → (Nat → Int64)
  | 0, w => w
  | k + 1, w => oRemove to 256 (oXor 256 (a + k) (b + k) 1 (cEqN to a b k w))
def cEq (to a b width : Nat) (w : Nat → Int64) : Nat → Int64 := cEqN to a b width (oFill true to 1 w)
def cLessN (to a b width : Nat) (sg : Bool) : Nat → (Nat → Int64) → (Nat → Int64)
  | 0, w => w
  | k + 1, w => oChoose to 256 (if sg = true ∧ k = width - 1 then a + k else b + k) to (oXor 256 (a + k) (b + k) 1 (cLessN to a b width sg k w))
def cLess (to a b width : Nat) (sg : Bool) (w : Nat → Int64) : Nat → Int64 := cLessN to a b width sg width (oFill false to 1 w)
def cAtMost (to a b width : Nat) (sg : Bool) (w : Nat → Int64) : Nat → Int64 := oTurn to to 1 (cLess to b a width sg w)
def updN (f : Nat → Nat) (k x : Nat) : Nat → Nat := fun j => if j = k then x else f j
theorem updN_I (f : Nat → Nat) (k x : Nat) : upd (fun j => nI (f j)) k (nI x) = fun j => nI (updN f k x j) := by
  funext j
  unfold upd updN
  by_cases h : j = k
  · rw [if_pos h, if_pos h]
  · rw [if_neg h, if_neg h]
abbrev nilW : va_W := []
theorem n_and1_t (a : Nat) : nI a &&& nI 1 = nI (a % 2) := by rw [n_and_t, Nat.and_one_is_mod]
section NB4
variable {p : Program} {l : Launch} {e : Env} {R : Room} {s : State} {m : MethodId} {args : Array Value} {below : List Frame} {meth : Method} {c : Code} {H : Heap} {locs : List Loc} {cells slots : Nat} {Q : State → Prop}
variable {cc : ByteArray} {pc : Nat} {ls : Array Slot} {rest : List Value}
theorem n_and1 (hx : p.tables.exec = Jvm.exec) (hb : c.code = cc) {x : Nat} (hdg : decode cc pc = .ok (.iand, 1)) (k : W p l e R s m args below meth c H locs cells slots Q (F0 m (pc + 1) ls (.int (nI (x % 2)) :: rest))) : W p l e R s m args below meth c H locs cells slots Q (F0 m pc ls (.int (nI 1) :: .int (nI x) :: rest)) :=
  t_iand hx hb hdg (n_and1_t x) k
end NB4
theorem wbp_lo {i place : Nat} (h : place < 6) : wbpT place = wbp i place := by
  unfold wbp
  rw [if_pos h]
theorem wbp_0 {i place : Nat} (h : ¬ place < 6) (h2 : ¬ i / 2 ^ (place - 6) % 2 = 1) : (0 : Int64) = wbp i place := by
  unfold wbp
  rw [if_neg h, if_neg h2]
theorem wbp_1 {i place : Nat} (h : ¬ place < 6) (h2 : i / 2 ^ (place - 6) % 2 = 1) : (-1 : Int64) = wbp i place := by
  unfold wbp
  rw [if_neg h, if_pos h2]
theorem pNone_no {w : Nat → Int64} {a b i : Nat} (hi : i < 16) (h : ¬ w (a * 16 + i) &&& w (b * 16 + i) = 0) : pNone w a b = false := by
  exact Bool.eq_false_iff.mpr (fun q => h (pNone_all.mp q i hi))
theorem pNone_yes {w : Nat → Int64} {a b : Nat} (h : ∀ i, i < 16 → w (a * 16 + i) &&& w (b * 16 + i) = 0) : pNone w a b = true := by
  exact pNone_all.mpr h
theorem pWithin_no {w : Nat → Int64} {a b i : Nat} (hi : i < 16) (h : ¬ w (a * 16 + i) &&& (w (b * 16 + i) ^^^ (-1)) = 0) : pWithin w a b = false := by
  exact Bool.eq_false_iff.mpr (fun q => h (pWithin_all.mp q i hi))
theorem pWithin_yes {w : Nat → Int64} {a b : Nat} (h : ∀ i, i < 16 → w (a * 16 + i) &&& (w (b * 16 + i) ^^^ (-1)) = 0) : pWithin w a b = true := by
  exact pWithin_all.mpr h
theorem sh_amt : ∀ k, k < 64 → ((nI k).toInt64.toUInt64 &&& Int64.toUInt64 63) = UInt64.ofNat k := by decide +kernel
theorem sh_bit (x : Int64) {k : Nat} (hk : k < 64) : ((x.toUInt64 >>> ((nI k).toInt64.toUInt64 &&& Int64.toUInt64 63)).toInt64 &&& 1) = if x.toBitVec.getLsbD k = true then 1 else 0 := by
  rw [sh_amt k hk]
  apply Int64.toBitVec_inj.mp
  apply BitVec.eq_of_getLsbD_eq
  intro j hj
  have e1 : (x.toUInt64 >>> UInt64.ofNat k).toInt64.toBitVec = x.toBitVec >>> k := by
    show (x.toUInt64 >>> UInt64.ofNat k).toBitVec = _
    rw [UInt64.toBitVec_shiftRight]
    show x.toBitVec >>> ((UInt64.ofNat k).toBitVec % 64) = x.toBitVec >>> k
    show x.toBitVec >>> (((UInt64.ofNat k).toBitVec % 64).toNat) = x.toBitVec >>> k
    congr 1
    show ((BitVec.ofNat 64 k) % 64#64).toNat = k
    rw [BitVec.toNat_umod, BitVec.toNat_ofNat]
    show (k % 18446744073709551616) % 64 = k
    omega
  rw [Int64.toBitVec_and, e1]
  show ((x.toBitVec >>> k) &&& (1#64)).getLsbD j = _
  rw [BitVec.getLsbD_and, BitVec.getLsbD_ushiftRight]
  by_cases hb : x.toBitVec.getLsbD k = true
  · rw [if_pos hb]
    show _ = (1#64).getLsbD j
    by_cases h0 : j = 0
    · subst h0
      rw [Nat.add_zero, hb]
      rfl
    · rw [BitVec.getLsbD_one]
      simp [h0]
  · rw [if_neg hb]
    show _ = (0#64).getLsbD j
    by_cases h0 : j = 0
    · subst h0
      rw [Nat.add_zero]
      simp [hb]
    · rw [BitVec.getLsbD_one]
      simp [h0]
theorem pBit_yes {w : Nat → Int64} {r x : Nat} (_ : x < 1024) (h : ((w (r * 16 + x / 64)).toUInt64 >>> ((nI (x % 64)).toInt64.toUInt64 &&& Int64.toUInt64 63)).toInt64 &&& 1 = 1) : pBit w r x = true := by
  rw [sh_bit _ (by omega)] at h
  unfold pBit
  by_cases hb : (w (r * 16 + x / 64)).toBitVec.getLsbD (x % 64) = true
  · exact hb
  · rw [if_neg hb] at h
    exact absurd h (by decide)
theorem pBit_no {w : Nat → Int64} {r x : Nat} (_ : x < 1024) (h : ¬ ((w (r * 16 + x / 64)).toUInt64 >>> ((nI (x % 64)).toInt64.toUInt64 &&& Int64.toUInt64 63)).toInt64 &&& 1 = 1) : pBit w r x = false := by
  rw [sh_bit _ (by omega)] at h
  unfold pBit
  by_cases hb : (w (r * 16 + x / 64)).toBitVec.getLsbD (x % 64) = true
  · rw [if_pos hb] at h
    exact absurd rfl h
  · exact Bool.eq_false_iff.mpr hb
theorem lowB_end {x : Int64} {i : Nat} (h : 63 ≤ i) : lowB x (63 - i) i = i := by
  rw [show 63 - i = 0 by omega]
  rfl
theorem lowB_hit {x : Int64} {i : Nat} (h : i < 63) (c : ¬ (x.toUInt64 >>> ((nI i).toInt64.toUInt64 &&& Int64.toUInt64 63)).toInt64 &&& 1 = 0) : lowB x (63 - i) i = i := by
  rw [sh_bit _ (by omega)] at c
  rw [show 63 - i = (62 - i) + 1 by omega]
  unfold lowB
  by_cases hb : x.toBitVec.getLsbD i = true
  · rw [if_pos hb]
  · rw [if_neg hb] at c
    exact absurd rfl c
theorem lowB_go {x : Int64} {i : Nat} (h : i < 63) (c : (x.toUInt64 >>> ((nI i).toInt64.toUInt64 &&& Int64.toUInt64 63)).toInt64 &&& 1 = 0) : lowB x (63 - i) i = lowB x (63 - (i + 1)) (i + 1) := by
  rw [sh_bit _ (by omega)] at c
  rw [show 63 - i = (63 - (i + 1)) + 1 by omega]
  conv => lhs; unfold lowB
  by_cases hb : x.toBitVec.getLsbD i = true
  · rw [if_pos hb] at c
    exact absurd c (by decide)
  · rw [if_neg hb]
theorem lowW_end {w : Nat → Int64} {r i : Nat} (h : 16 ≤ i) : lowW w r (16 - i) i = 0 := by
  rw [show 16 - i = 0 by omega]
  rfl
theorem lowW_hit {w : Nat → Int64} {r i : Nat} (h : i < 16) (c : ¬ w (r * 16 + i) = 0) : lowW w r (16 - i) i = i * 64 + lowB (w (r * 16 + i)) 63 0 := by
  rw [show 16 - i = (15 - i) + 1 by omega]
  conv => lhs; unfold lowW
  rw [if_neg c]
theorem lowW_go {w : Nat → Int64} {r i : Nat} (h : i < 16) (c : w (r * 16 + i) = 0) : lowW w r (16 - i) i = lowW w r (16 - (i + 1)) (i + 1) := by
  rw [show 16 - i = (16 - (i + 1)) + 1 by omega]
  conv => lhs; unfold lowW
  rw [if_pos c]
def Zt (n0 t0 : Nat) : State → Prop := fun U => n0 ≤ U.heap.size ∧ va_Z "BitSolver$Sets" "BY_PLACE" "[J" (.ref t0) (fun q => n0 ≤ q) U U.heap ∧ va_T .long t0 6 (fun j => .long (wbpT j)) (fun q => n0 ≤ q) U U.heap
theorem Zt_ok {n0 t0 : Nat} : Xok (Zt n0 t0) := fun u U hvm hh h => ⟨by rw [hh]; exact h.1, by rw [hh]; exact h.2.1.moved (by rw [hvm]; exact Vm.Alike.refl _), by rw [hh]; exact h.2.2.moved (by rw [hvm]; exact Vm.Alike.refl _)⟩
theorem Zt_kept {n0 t0 : Nat} {s : State} {A : Nat → Prop} {H : Heap} {locs : List Loc} (h : Zt n0 t0 s) (hS : va_S A s.heap H locs) (hAn : ∀ q, A q → n0 ≤ q) : ∀ U : State, U.heap = H → s.WarmedH U.vm → Zt n0 t0 U := by
  intro U hU hW
  have hk : ∀ a : Nat, a < s.heap.size → ¬ n0 ≤ a → H[a]? = s.heap[a]? := fun a h1 h2 => hS.2.1 a h1 (fun z => h2 (hAn a z))
  refine ⟨by rw [hU]; exact Nat.le_trans h.1 hS.1, ?_, ?_⟩
  · rw [hU]; exact (h.2.1.moved hW.alike).kept hk
  · rw [hU]; exact (h.2.2.moved hW.alike).kept hk
theorem va_A_ge {n0 sz q : Nat} {ws : va_W} (h0 : n0 ≤ sz) (h : ∀ x ∈ ws, n0 ≤ x.1) (hq : va_A ws sz q) : n0 ≤ q := by
  rcases hq with ⟨k, e, hk⟩ | hq
  · exact h _ (List.mem_of_getElem? hk)
  · exact Nat.le_trans h0 hq
theorem Zt_A0 {n0 t0 q : Nat} {s : State} (h : Zt n0 t0 s) (hq : va_A nilW s.heap.size q) : n0 ≤ q := va_A_ge h.1 (fun _ h => absurd h List.not_mem_nil) hq
end
section
abbrev setsW (hs hw : Nat) (cL : ClassId) (w : Nat → Int64) : va_W := [(hs, .inr (1, [.ref hw])), (hw, .inl (cL, 4160, .inr (.inl w)))]
abbrev circW (hc hs hw : Nat) (cL : ClassId) (w : Nat → Int64) : va_W := [(hc, .inr (2, [.ref hs])), (hs, .inr (1, [.ref hw])), (hw, .inl (cL, 4160, .inr (.inl w)))]
abbrev bsW (ad : Nat → Nat) (cL cI : ClassId) (nv nb nt nf na lv nm : Nat) (vw vp tw ab am : Nat → Nat) (w : Nat → Int64) : va_W :=
  [(ad 0, .inr (0, [.ref (ad 2), .ref (ad 1), .ref (ad 4), .ref (ad 5), .int (nI nv), .int (nI nb), .ref (ad 6), .int (nI nt), .int (nI nf), .ref (ad 7), .int (nI na), .int (nI lv), .ref (ad 8), .int (nI nm)])),
   (ad 1, .inr (2, [.ref (ad 2)])), (ad 2, .inr (1, [.ref (ad 3)])), (ad 3, .inl (cL, 4160, .inr (.inl w))),
   (ad 4, .inl (cI, 6, .inl (fun j => nI (vw j)))), (ad 5, .inl (cI, 6, .inl (fun j => nI (vp j)))), (ad 6, .inl (cI, 50, .inl (fun j => nI (tw j)))), (ad 7, .inl (cI, 6, .inl (fun j => nI (ab j)))), (ad 8, .inl (cI, 8, .inl (fun j => nI (am j))))]
theorem Zt_A2 {n0 t0 q hs hw : Nat} {cL : ClassId} {w : Nat → Int64} {s : State} (h : Zt n0 t0 s) (u1 : n0 ≤ hs) (u2 : n0 ≤ hw) (hq : va_A (setsW hs hw cL w) s.heap.size q) : n0 ≤ q :=
  va_A_ge h.1 (List.forall_mem_cons.mpr ⟨u1, List.forall_mem_cons.mpr ⟨u2, fun _ h => absurd h List.not_mem_nil⟩⟩) hq
theorem Zt_AB {n0 t0 q : Nat} {ad : Nat → Nat} {cL cI : ClassId} {nv nb nt nf na lv nm : Nat} {vw vp tw ab am : Nat → Nat} {w : Nat → Int64} {s : State} (h : Zt n0 t0 s) (u : ∀ i, i < 9 → n0 ≤ ad i) (hq : va_A (bsW ad cL cI nv nb nt nf na lv nm vw vp tw ab am w) s.heap.size q) : n0 ≤ q :=
  va_A_ge h.1 (List.forall_mem_cons.mpr ⟨u 0 (by decide), List.forall_mem_cons.mpr ⟨u 1 (by decide), List.forall_mem_cons.mpr ⟨u 2 (by decide), List.forall_mem_cons.mpr ⟨u 3 (by decide), List.forall_mem_cons.mpr ⟨u 4 (by decide), List.forall_mem_cons.mpr ⟨u 5 (by decide), List.forall_mem_cons.mpr ⟨u 6 (by decide), List.forall_mem_cons.mpr ⟨u 7 (by decide), List.forall_mem_cons.mpr ⟨u 8 (by decide), fun _ h => absurd h List.not_mem_nil⟩⟩⟩⟩⟩⟩⟩⟩⟩) hq
def Bok (nv nb nt nf na lv nm : Nat) (vw vp tw ab am : Nat → Nat) : Prop := nv ≤ 6 ∧ nb ≤ 10 ∧ nt ≤ 50 ∧ nf ≤ 50 ∧ na ≤ 30 ∧ lv ≤ 5 ∧ nm ≤ 8 ∧ (∀ j, j < nv → 1 ≤ vw j ∧ vw j ≤ 4 ∧ vp j + vw j ≤ 10) ∧ (∀ j, j < nt → 1 ≤ tw j ∧ tw j ≤ 4) ∧ (∀ j, j < nm → am j < nf) ∧ (∀ j, 1 ≤ j → j ≤ lv → ab j ≤ na)
def hasB (x : Int32) (n : Nat) : Bool := decide (0 ≤ x.toInt ∧ x.toInt < (n : Int))
def wdB (x : Int32) : Bool := decide (1 ≤ x.toInt ∧ x.toInt ≤ 4)
def tW (nt : Nat) (tw : Nat → Nat) (x : Int32) : Nat := if hasB x nt = true then tw x.toInt.toNat else 0
def cW (nt : Nat) (tw : Nat → Nat) (x y : Int32) : Nat := if tW nt tw x = tW nt tw y then tW nt tw x else 0
def jW (nt : Nat) (tw : Nat → Nat) (x y : Int32) : Nat := if hasB x nt = true ∧ hasB y nt = true then (if 1 ≤ tW nt tw x + tW nt tw y ∧ tW nt tw x + tW nt tw y ≤ 4 then tW nt tw x + tW nt tw y else 0) else 0
def pWk (nv nt nf : Nat) (vw tw : Nat → Nat) (k : Nat) (a b c : Int32) : Nat := match k with
  | 0 => if wdB b = true ∧ 0 ≤ a.toInt ∧ a.toInt < ((2 ^ b.toInt.toNat : Nat) : Int) then b.toInt.toNat else 0
  | 1 => if hasB a nv = true then vw a.toInt.toNat else 0
  | 2 => cW nt tw a b
  | 3 => cW nt tw a b
  | 4 => cW nt tw a b
  | 5 => cW nt tw a b
  | 6 => cW nt tw a b
  | 7 => cW nt tw a b
  | 8 => tW nt tw a
  | 9 => if 0 ≤ b.toInt ∧ b.toInt ≤ 4 then tW nt tw a else 0
  | 10 => if 0 ≤ b.toInt ∧ b.toInt ≤ 4 then tW nt tw a else 0
  | 11 => if 0 ≤ b.toInt ∧ b.toInt ≤ 4 then tW nt tw a else 0
  | 12 => if hasB a nf = true then cW nt tw b c else 0
  | 13 => jW nt tw a b
  | 14 => if 0 ≤ b.toInt ∧ b.toInt ≤ c.toInt ∧ c.toInt < (tW nt tw a : Int) then (c.toInt - b.toInt + 1).toNat else 0
  | _ => 0
def pW (nv nt nf : Nat) (vw tw : Nat → Nat) (kd a b c : Int32) : Nat := if 0 ≤ kd.toInt ∧ kd.toInt ≤ 14 then pWk nv nt nf vw tw kd.toInt.toNat a b c else 0
def fOk (nt nf : Nat) (tw : Nat → Nat) (k : Nat) (a b : Int32) : Bool := match k with
  | 0 => decide (0 < cW nt tw a b)
  | 1 => decide (0 < cW nt tw a b)
  | 2 => decide (0 < cW nt tw a b)
  | 3 => decide (0 < cW nt tw a b)
  | 4 => decide (0 < cW nt tw a b)
  | 5 => decide (0 ≤ b.toInt ∧ b.toInt < (tW nt tw a : Int))
  | 6 => hasB a nf
  | 7 => hasB a nf && hasB b nf
  | 8 => hasB a nf && hasB b nf
  | 9 => hasB a nf && hasB b nf
  | 10 => hasB a nf && hasB b nf
  | _ => false
def pF (nt nf : Nat) (tw : Nat → Nat) (kd a b : Int32) : Bool := if 0 ≤ kd.toInt ∧ kd.toInt ≤ 10 then fOk nt nf tw kd.toInt.toNat a b else false
theorem hasB_t {x : Int32} {n : Nat} (h1 : 0 ≤ x.toInt) (h2 : x.toInt < (n : Int)) : hasB x n = true := decide_eq_true ⟨h1, h2⟩
theorem hasB_f {x : Int32} {n : Nat} (h : ¬ (0 ≤ x.toInt ∧ x.toInt < (n : Int))) : hasB x n = false := decide_eq_false h
theorem hasB_nat {x : Int32} {n : Nat} (h : hasB x n = true) : ∃ j : Nat, j < n ∧ x = nI j := by
  have h2 := of_decide_eq_true h
  exact z_nat h2.1 h2.2
theorem hasB_I {j n : Nat} (h : j < n) (hn : n < 2 ^ 31) : hasB (nI j) n = true := by
  have h3 := nI_toInt (n := j) (by omega)
  exact hasB_t (by rw [h3]; omega) (by rw [h3]; omega)
theorem tW_I {nt j : Nat} {tw : Nat → Nat} (h : j < nt) (hn : nt < 2 ^ 31) : tW nt tw (nI j) = tw j := by
  unfold tW
  rw [if_pos (hasB_I h hn), nI_toInt (by omega)]
  rfl
theorem tW_no {nt : Nat} {tw : Nat → Nat} {x : Int32} (h : hasB x nt = false) : tW nt tw x = 0 := by
  unfold tW
  rw [if_neg (by rw [h]; decide)]
theorem tW_le {nt : Nat} {tw : Nat → Nat} (h : ∀ j, j < nt → 1 ≤ tw j ∧ tw j ≤ 4) (hn : nt < 2 ^ 31) (x : Int32) : tW nt tw x ≤ 4 := by
  cases hb : hasB x nt with
  | false => rw [tW_no hb]; omega
  | true =>
    obtain ⟨j, hj, rfl⟩ := hasB_nat hb
    rw [tW_I hj hn]
    exact (h j hj).2
def oAsm (am : Nat → Nat) (P : Nat) : Nat → (Nat → Int64) → (Nat → Int64)
  | 0, w => w
  | k + 1, w => if P / 2 ^ k % 2 = 1 then oAnd 256 256 (am k) 1 (oAsm am P k w) else oAsm am P k w
def wAsm (am : Nat → Nat) (lv nm P : Nat) (w : Nat → Int64) : Nat → Int64 := oAsm am P nm (oCopy 256 (250 + lv) 1 w)
def pCan (am : Nat → Nat) (lv nm P : Nat) (w : Nat → Int64) : Bool := !pNone (wAsm am lv nm P w) 256 256
def oNum (to num : Nat) : Nat → (Nat → Int64) → (Nat → Int64)
  | 0, w => w
  | k + 1, w => oFill (decide (num / 2 ^ k % 2 = 1)) (to + k) 1 (oNum to num k w)
def oVar (to pl : Nat) : Nat → (Nat → Int64) → (Nat → Int64)
  | 0, w => w
  | k + 1, w => oPlace (to + k) (pl + k) (oVar to pl k w)
theorem cW_le {nt : Nat} {tw : Nat → Nat} (h : ∀ j, j < nt → 1 ≤ tw j ∧ tw j ≤ 4) (hn : nt < 2 ^ 31) (x y : Int32) : cW nt tw x y ≤ 4 := by
  unfold cW
  split
  · exact tW_le h hn x
  · omega
theorem jW_I {nt i j : Nat} {tw : Nat → Nat} (hi : i < nt) (hj : j < nt) (hn : nt < 2 ^ 31) : jW nt tw (nI i) (nI j) = if 1 ≤ tw i + tw j ∧ tw i + tw j ≤ 4 then tw i + tw j else 0 := by
  unfold jW
  rw [if_pos ⟨hasB_I hi hn, hasB_I hj hn⟩, tW_I hi hn, tW_I hj hn]
theorem wdB_I {n : Nat} (hn : n < 2 ^ 31) : wdB (nI n) = decide (1 ≤ n ∧ n ≤ 4) := by
  unfold wdB
  rw [nI_toInt hn]
  by_cases h : 1 ≤ n ∧ n ≤ 4
  · rw [decide_eq_true h, decide_eq_true (by omega)]
  · rw [decide_eq_false h, decide_eq_false (by omega)]
theorem wdB_nat {x : Int32} (h : wdB x = true) : ∃ j : Nat, 1 ≤ j ∧ j ≤ 4 ∧ x = nI j := by
  have h2 := of_decide_eq_true h
  exact ⟨x.toInt.toNat, by omega, by omega, z_of (by omega)⟩
theorem pW0_t {nv nt nf j : Nat} {vw tw : Nat → Nat} {ka kc : Int32} (h1 : 1 ≤ j) (h4 : j ≤ 4) (h0 : 0 ≤ ka.toInt) (h : ka.toInt < ((2 ^ j : Nat) : Int)) : pWk nv nt nf vw tw 0 ka (nI j) kc = j := by
  have e := nI_toInt (n := j) (by omega)
  have hw : wdB (nI j) = true := by rw [wdB_I (by omega)]; exact decide_eq_true ⟨h1, h4⟩
  show (if wdB (nI j) = true ∧ 0 ≤ ka.toInt ∧ ka.toInt < ((2 ^ (nI j).toInt.toNat : Nat) : Int) then (nI j).toInt.toNat else 0) = j
  rw [if_pos ⟨hw, h0, by rw [e]; exact h⟩, e]
  rfl
theorem pW0_w {nv nt nf : Nat} {vw tw : Nat → Nat} {ka kb kc : Int32} (h : wdB kb = false) : pWk nv nt nf vw tw 0 ka kb kc = 0 := if_neg (fun q => by rw [h] at q; exact absurd q.1 (by decide))
theorem pW0_f {nv nt nf j : Nat} {vw tw : Nat → Nat} {ka kc : Int32} (h4 : j ≤ 4) (h : ka.toInt < 0 ∨ ((2 ^ j : Nat) : Int) ≤ ka.toInt) : pWk nv nt nf vw tw 0 ka (nI j) kc = 0 := by
  have e := nI_toInt (n := j) (by omega)
  refine if_neg (fun q => ?_)
  obtain ⟨-, q1, q2⟩ := q
  rw [e] at q2
  have q2 : ka.toInt < ((2 ^ j : Nat) : Int) := q2
  omega
theorem pW1_t {nv nt nf j : Nat} {vw tw : Nat → Nat} {kb kc : Int32} (h : j < nv) (hn : nv < 2 ^ 31) : pWk nv nt nf vw tw 1 (nI j) kb kc = vw j := by
  show (if hasB (nI j) nv = true then vw (nI j).toInt.toNat else 0) = vw j
  rw [if_pos (hasB_I h hn), nI_toInt (by omega)]
  rfl
theorem pW1_f {nv nt nf : Nat} {vw tw : Nat → Nat} {ka kb kc : Int32} (h : hasB ka nv = false) : pWk nv nt nf vw tw 1 ka kb kc = 0 := if_neg (by rw [h]; decide)
theorem updN_self (f : Nat → Nat) (k x : Nat) : updN f k x k = x := if_pos rfl
theorem updN_ne (f : Nat → Nat) {k j : Nat} (x : Nat) (h : j ≠ k) : updN f k x j = f j := if_neg h
theorem Bok_tw {nv nb nt nf na lv nm : Nat} {vw vp tw ab am : Nat → Nat} (h : Bok nv nb nt nf na lv nm vw vp tw ab am) (wd : Nat) : Bok nv nb nt nf na lv nm vw vp (updN tw nt wd) ab am := by
  obtain ⟨o1, o2, o3, o4, o5, o6, o7, o8, o9, o10, o11⟩ := h
  exact ⟨o1, o2, o3, o4, o5, o6, o7, o8, fun j hj => by rw [updN_ne _ _ (by omega)]; exact o9 j hj, o10, o11⟩
theorem lowB_le (x : Int64) : ∀ n k : Nat, lowB x n k ≤ k + n := by
  intro n
  induction n with
  | zero => intro k; exact Nat.le_refl _
  | succ n ih =>
    intro k
    unfold lowB
    split
    · omega
    · have := ih (k + 1)
      omega
theorem lowW_lt (w : Nat → Int64) (r : Nat) : ∀ n i : Nat, i + n ≤ 16 → lowW w r n i < 1024 := by
  intro n
  induction n with
  | zero => intro i _; show (0 : Nat) < 1024; omega
  | succ n ih =>
    intro i hi
    unfold lowW
    split
    · exact ih (i + 1) (by omega)
    · have := lowB_le (w (r * 16 + i)) 63 0
      omega
theorem pLow_lt (w : Nat → Int64) (r : Nat) : pLow w r < 1024 := lowW_lt w r 16 0 (by omega)
def vbits (w : Nat → Int64) (row x : Nat) : Nat → Nat
  | 0 => 0
  | k + 1 => if pBit w (row + k) x = true then vbits w row x k ||| 2 ^ k else vbits w row x k
def fxW (pl : Nat) : Nat → (Nat → Int64) → (Nat → Int64)
  | 0, w => w
  | k + 1, w => oPlace 256 (pl + k) (fxW pl k w)
def fxR (pl mr : Nat) (w : Nat → Int64) : Nat → Nat
  | 0 => 0
  | k + 1 => if pWithin (fxW pl (k + 1) w) mr 256 = true ∨ (!pNone (fxW pl (k + 1) w) mr 256) = false then fxR pl mr w k ||| 2 ^ k else fxR pl mr w k
def lsS (row wd : Nat) : Nat → (Nat → Int64) × Nat → (Nat → Int64) × Nat
  | 0, q => q
  | i + 1, q => if pWithin (lsS row wd i q).1 256 (row + (wd - 1 - i)) = true then ((lsS row wd i q).1, (lsS row wd i q).2 ||| 2 ^ (wd - 1 - i)) else (oRemove 256 (row + (wd - 1 - i)) (lsS row wd i q).1, (lsS row wd i q).2)
def clrB (L k : Nat) : Nat := if L / 2 ^ k % 2 = 1 then L - 2 ^ k else L
theorem clrB_I : ∀ L, L < 256 → ∀ k, k < 8 → nI L &&& (nI (2 ^ k) ^^^ (-1)) = nI (clrB L k) := by decide +kernel
theorem clrB_le (L k : Nat) : clrB L k ≤ L := by
  unfold clrB
  split
  · exact Nat.sub_le _ _
  · exact Nat.le_refl _
def blS (am : Nat → Nat) (lv nm : Nat) : Nat → (Nat → Int64) × Nat → (Nat → Int64) × Nat
  | 0, q => q
  | k + 1, q => (wAsm am lv nm (clrB (blS am lv nm k q).2 k) (blS am lv nm k q).1, if pCan am lv nm (clrB (blS am lv nm k q).2 k) (blS am lv nm k q).1 = true then (blS am lv nm k q).2 else clrB (blS am lv nm k q).2 k)
theorem blS_le {am : Nat → Nat} {lv nm : Nat} (q : (Nat → Int64) × Nat) : ∀ k, (blS am lv nm k q).2 ≤ q.2 := by
  intro k
  induction k with
  | zero => exact Nat.le_refl _
  | succ k ih =>
    show (if _ then _ else _) ≤ _
    split
    · exact ih
    · exact Nat.le_trans (clrB_le _ _) ih
def cntF (nv nt nf na lv nm nb k : Nat) : Nat := if k = 0 then nv else if k = 1 then nt else if k = 2 then nf else if k = 3 then na else if k = 4 then lv else if k = 5 then nm else nb
end
section
set_option maxHeartbeats 4000000 in
set_option maxRecDepth 100000 in
theorem c_S_and (l : Launch) (D : va_G) (hs hw : Nat) (cL : ClassId) (w : Nat → Int64) (to a b rows : Nat) (h1 : to + rows ≤ 260) (h2 : a + rows ≤ 260) (h3 : b + rows ≤ 260) (k2 : to ≤ a ∨ a + rows ≤ to) (k3 : to ≤ b ∨ b + rows ≤ to) : Fn l y_S_and (wk y_S_and b_S_and 6 none) rm_S_and D cls [(cL, .long)] [.ref hs, .int (nI to), .int (nI a), .int (nI b), .int (nI rows)] (setsW hs hw cL w) XT none (setsW hs hw cL (oAnd to a b rows w)) := by
  refine Fn.of (by decide) rfl (Nat.le_of_ble_eq_true rfl) ?_
  intro p e s m below meth c A ls hx hb hml hr hts0 hown hlocks hnm hP hK hD hS hA hAe hX hl
  have hts : ∀ w ∈ lw_ok, w.before _ s = true := fun w h => hts0 w (List.mem_cons_of_mem _ h)
  have hown : s.vm.findClass R_S = some m.cls := hown
  have hP : va_P D cls (setsW hs hw cL w) s.heap := hP
  have hl : lv_has ls 6 [(0, .ref hs), (1, .int (nI to)), (2, .int (nI a)), (3, .int (nI b)), (4, .int (nI rows))] := hl
  refine lv_iconst (v := nI 0) hx hb d_S_and_0 (by decide) ?_
  refine lv_istore (lv' := [(5, .int (nI 0)), (0, .ref hs), (1, .int (nI to)), (2, .int (nI a)), (3, .int (nI b)), (4, .int (nI rows))]) hx hb d_S_and_1 hl (by decide) rfl (fun ls hl => ?_)
  refine w_loop 3 [] (rows * 16) (fun i H locs ls => va_P D cls (setsW hs hw cL (rset (fun i => w (a * 16 + i) &&& w (b * 16 + i)) to i w)) H ∧ va_D A (setsW hs hw cL (rset (fun i => w (a * 16 + i) &&& w (b * 16 + i)) to i w)) ∧ va_S A s.heap H locs ∧ lv_has ls 6 [(5, .int (nI i)), (0, .ref hs), (1, .int (nI to)), (2, .int (nI a)), (3, .int (nI b)), (4, .int (nI rows))]) ?_ 0 (Nat.zero_le _) _ _ ls ⟨by rw [rset_0]; exact hP, by rw [rset_0]; exact hD, hS, lv_sub hl [0, 1, 2, 3, 4, 5] rfl⟩
  intro i hi ih H locs ls ⟨hP, hD, hS, hl⟩
  refine lv_iload hx hb d_S_and_3 (lv_at hl 0 rfl) ?_
  refine lv_iload hx hb d_S_and_5 (lv_at hl 5 rfl) ?_
  refine lv_bipush (v := nI 16) hx hb d_S_and_7 (by decide) ?_
  refine n_mul hx hb d_S_and_9 ?_
  refine z_icmp_ge (tgt := 56) hx hb (nI_toInt (by omega)) (nI_toInt (by omega)) d_S_and_10 (by decide) (fun c_10 => ?_) (fun c_10 => ?_)
  · obtain rfl : rows * 16 = i := by omega
    exact fn_vret hx hb hr hlocks hAe hK hP hD hS d_S_and_56
  · refine lv_aload_n hx hb d_S_and_13 rfl (lv_at hl 1 rfl) ?_
    refine va_get (D := D) (ci := 1) (v := .ref hw) (C := R_S) (T := F_S) (N := 1) hx hb hts in_S hown hK hP 0 rfl rfl 0 (by decide) (hts _ wd_32) (fun _ h9 => h9) rfl d_S_and_14 ?_
    refine lv_iload_n hx hb d_S_and_17 rfl (lv_at hl 2 rfl) ?_
    refine lv_bipush (v := nI 16) hx hb d_S_and_18 (by decide) ?_
    refine n_mul hx hb d_S_and_20 ?_
    refine lv_iload hx hb d_S_and_21 (lv_at hl 0 rfl) ?_
    refine n_add hx hb d_S_and_23 ?_
    refine lv_aload_n hx hb d_S_and_24 rfl (lv_at hl 1 rfl) ?_
    refine va_get (D := D) (ci := 1) (v := .ref hw) (C := R_S) (T := F_S) (N := 1) hx hb hts in_S hown hK hP 0 rfl rfl 0 (by decide) (hts _ wd_32) (fun _ h9 => h9) rfl d_S_and_25 ?_
    refine lv_iload_n hx hb d_S_and_28 rfl (lv_at hl 3 rfl) ?_
    refine lv_bipush (v := nI 16) hx hb d_S_and_29 (by decide) ?_
    refine n_mul hx hb d_S_and_31 ?_
    refine lv_iload hx hb d_S_and_32 (lv_at hl 0 rfl) ?_
    refine n_add hx hb d_S_and_34 ?_
    refine n_lald hx hb hK hP 1 0 rfl rfl (i := (a * 16) + i) (by omega) (by omega) d_S_and_35 ?_
    refine lv_aload_n hx hb d_S_and_36 rfl (lv_at hl 1 rfl) ?_
    refine va_get (D := D) (ci := 1) (v := .ref hw) (C := R_S) (T := F_S) (N := 1) hx hb hts in_S hown hK hP 0 rfl rfl 0 (by decide) (hts _ wd_32) (fun _ h9 => h9) rfl d_S_and_37 ?_
    refine lv_iload_n hx hb d_S_and_40 rfl (lv_at hl 4 rfl) ?_
    refine lv_bipush (v := nI 16) hx hb d_S_and_41 (by decide) ?_
    refine n_mul hx hb d_S_and_43 ?_
    refine lv_iload hx hb d_S_and_44 (lv_at hl 0 rfl) ?_
    refine n_add hx hb d_S_and_46 ?_
    refine n_lald hx hb hK hP 1 0 rfl rfl (i := (b * 16) + i) (by omega) (by omega) d_S_and_47 ?_
    refine lv_land hx hb d_S_and_48 ?_
    refine n_last hx hb hK hP hD hS 1 0 rfl rfl (i := (to * 16) + i) (by omega) (by omega) (by rw [rset_rd _ w (to := to) (a := a) (i := i) (N := rows * 16) (by omega) (by omega), rset_rd _ w (to := to) (a := b) (i := i) (N := rows * 16) (by omega) (by omega)]; exact rset_st _ _ _ _) d_S_and_49 (ws' := (setsW hs hw cL (rset (fun i => w (a * 16 + i) &&& w (b * 16 + i)) to (i + 1) w))) rfl (fun H locs hP hD hS => ?_)
    refine lv_iinc (v := nI (i + 1)) (lv' := [(5, .int (nI (i + 1))), (0, .ref hs), (1, .int (nI to)), (2, .int (nI a)), (3, .int (nI b)), (4, .int (nI rows))]) hx hb d_S_and_50 hl (k := 0) rfl (by rw [← nI_1]; rfl) (by decide) rfl (fun ls hl => ?_)
    refine lv_goto (tgt := 3) hx hb d_S_and_53 (by decide) ?_
    exact ih _ _ _ (by omega) ⟨hP, hD, hS, lv_sub hl [0, 1, 2, 3, 4, 5] rfl⟩
set_option maxHeartbeats 4000000 in
set_option maxRecDepth 100000 in
theorem c_S_or (l : Launch) (D : va_G) (hs hw : Nat) (cL : ClassId) (w : Nat → Int64) (to a b rows : Nat) (h1 : to + rows ≤ 260) (h2 : a + rows ≤ 260) (h3 : b + rows ≤ 260) (k2 : to ≤ a ∨ a + rows ≤ to) (k3 : to ≤ b ∨ b + rows ≤ to) : Fn l y_S_or (wk y_S_or b_S_or 6 none) rm_S_or D cls [(cL, .long)] [.ref hs, .int (nI to), .int (nI a), .int (nI b), .int (nI rows)] (setsW hs hw cL w) XT none (setsW hs hw cL (oOr to a b rows w)) := by
  refine Fn.of (by decide) rfl (Nat.le_of_ble_eq_true rfl) ?_
  intro p e s m below meth c A ls hx hb hml hr hts0 hown hlocks hnm hP hK hD hS hA hAe hX hl
  have hts : ∀ w ∈ lw_ok, w.before _ s = true := fun w h => hts0 w (List.mem_cons_of_mem _ h)
  have hown : s.vm.findClass R_S = some m.cls := hown
  have hP : va_P D cls (setsW hs hw cL w) s.heap := hP
  have hl : lv_has ls 6 [(0, .ref hs), (1, .int (nI to)), (2, .int (nI a)), (3, .int (nI b)), (4, .int (nI rows))] := hl
  refine lv_iconst (v := nI 0) hx hb d_S_or_0 (by decide) ?_
  refine lv_istore (lv' := [(5, .int (nI 0)), (0, .ref hs), (1, .int (nI to)), (2, .int (nI a)), (3, .int (nI b)), (4, .int (nI rows))]) hx hb d_S_or_1 hl (by decide) rfl (fun ls hl => ?_)
  refine w_loop 3 [] (rows * 16) (fun i H locs ls => va_P D cls (setsW hs hw cL (rset (fun i => w (a * 16 + i) ||| w (b * 16 + i)) to i w)) H ∧ va_D A (setsW hs hw cL (rset (fun i => w (a * 16 + i) ||| w (b * 16 + i)) to i w)) ∧ va_S A s.heap H locs ∧ lv_has ls 6 [(5, .int (nI i)), (0, .ref hs), (1, .int (nI to)), (2, .int (nI a)), (3, .int (nI b)), (4, .int (nI rows))]) ?_ 0 (Nat.zero_le _) _ _ ls ⟨by rw [rset_0]; exact hP, by rw [rset_0]; exact hD, hS, lv_sub hl [0, 1, 2, 3, 4, 5] rfl⟩
  intro i hi ih H locs ls ⟨hP, hD, hS, hl⟩
  refine lv_iload hx hb d_S_or_3 (lv_at hl 0 rfl) ?_
  refine lv_iload hx hb d_S_or_5 (lv_at hl 5 rfl) ?_
  refine lv_bipush (v := nI 16) hx hb d_S_or_7 (by decide) ?_
  refine n_mul hx hb d_S_or_9 ?_
  refine z_icmp_ge (tgt := 56) hx hb (nI_toInt (by omega)) (nI_toInt (by omega)) d_S_or_10 (by decide) (fun c_10 => ?_) (fun c_10 => ?_)
  · obtain rfl : rows * 16 = i := by omega
    exact fn_vret hx hb hr hlocks hAe hK hP hD hS d_S_or_56
  · refine lv_aload_n hx hb d_S_or_13 rfl (lv_at hl 1 rfl) ?_
    refine va_get (D := D) (ci := 1) (v := .ref hw) (C := R_S) (T := F_S) (N := 1) hx hb hts in_S hown hK hP 0 rfl rfl 0 (by decide) (hts _ wd_32) (fun _ h9 => h9) rfl d_S_or_14 ?_
    refine lv_iload_n hx hb d_S_or_17 rfl (lv_at hl 2 rfl) ?_
    refine lv_bipush (v := nI 16) hx hb d_S_or_18 (by decide) ?_
    refine n_mul hx hb d_S_or_20 ?_
    refine lv_iload hx hb d_S_or_21 (lv_at hl 0 rfl) ?_
    refine n_add hx hb d_S_or_23 ?_
    refine lv_aload_n hx hb d_S_or_24 rfl (lv_at hl 1 rfl) ?_
    refine va_get (D := D) (ci := 1) (v := .ref hw) (C := R_S) (T := F_S) (N := 1) hx hb hts in_S hown hK hP 0 rfl rfl 0 (by decide) (hts _ wd_32) (fun _ h9 => h9) rfl d_S_or_25 ?_
    refine lv_iload_n hx hb d_S_or_28 rfl (lv_at hl 3 rfl) ?_
    refine lv_bipush (v := nI 16) hx hb d_S_or_29 (by decide) ?_
    refine n_mul hx hb d_S_or_31 ?_
    refine lv_iload hx hb d_S_or_32 (lv_at hl 0 rfl) ?_
    refine n_add hx hb d_S_or_34 ?_
    refine n_lald hx hb hK hP 1 0 rfl rfl (i := (a * 16) + i) (by omega) (by omega) d_S_or_35 ?_
    refine lv_aload_n hx hb d_S_or_36 rfl (lv_at hl 1 rfl) ?_
    refine va_get (D := D) (ci := 1) (v := .ref hw) (C := R_S) (T := F_S) (N := 1) hx hb hts in_S hown hK hP 0 rfl rfl 0 (by decide) (hts _ wd_32) (fun _ h9 => h9) rfl d_S_or_37 ?_
    refine lv_iload_n hx hb d_S_or_40 rfl (lv_at hl 4 rfl) ?_
    refine lv_bipush (v := nI 16) hx hb d_S_or_41 (by decide) ?_
    refine n_mul hx hb d_S_or_43 ?_
    refine lv_iload hx hb d_S_or_44 (lv_at hl 0 rfl) ?_
    refine n_add hx hb d_S_or_46 ?_
    refine n_lald hx hb hK hP 1 0 rfl rfl (i := (b * 16) + i) (by omega) (by omega) d_S_or_47 ?_
    refine lv_lor hx hb d_S_or_48 ?_
    refine n_last hx hb hK hP hD hS 1 0 rfl rfl (i := (to * 16) + i) (by omega) (by omega) (by rw [rset_rd _ w (to := to) (a := a) (i := i) (N := rows * 16) (by omega) (by omega), rset_rd _ w (to := to) (a := b) (i := i) (N := rows * 16) (by omega) (by omega)]; exact rset_st _ _ _ _) d_S_or_49 (ws' := (setsW hs hw cL (rset (fun i => w (a * 16 + i) ||| w (b * 16 + i)) to (i + 1) w))) rfl (fun H locs hP hD hS => ?_)
    refine lv_iinc (v := nI (i + 1)) (lv' := [(5, .int (nI (i + 1))), (0, .ref hs), (1, .int (nI to)), (2, .int (nI a)), (3, .int (nI b)), (4, .int (nI rows))]) hx hb d_S_or_50 hl (k := 0) rfl (by rw [← nI_1]; rfl) (by decide) rfl (fun ls hl => ?_)
    refine lv_goto (tgt := 3) hx hb d_S_or_53 (by decide) ?_
    exact ih _ _ _ (by omega) ⟨hP, hD, hS, lv_sub hl [0, 1, 2, 3, 4, 5] rfl⟩
set_option maxHeartbeats 4000000 in
set_option maxRecDepth 100000 in
theorem c_S_exclusive (l : Launch) (D : va_G) (hs hw : Nat) (cL : ClassId) (w : Nat → Int64) (to a b rows : Nat) (h1 : to + rows ≤ 260) (h2 : a + rows ≤ 260) (h3 : b + rows ≤ 260) (k2 : to ≤ a ∨ a + rows ≤ to) (k3 : to ≤ b ∨ b + rows ≤ to) : Fn l y_S_exclusive (wk y_S_exclusive b_S_exclusive 6 none) rm_S_exclusive D cls [(cL, .long)] [.ref hs, .int (nI to), .int (nI a), .int (nI b), .int (nI rows)] (setsW hs hw cL w) XT none (setsW hs hw cL (oXor to a b rows w)) := by
  refine Fn.of (by decide) rfl (Nat.le_of_ble_eq_true rfl) ?_
  intro p e s m below meth c A ls hx hb hml hr hts0 hown hlocks hnm hP hK hD hS hA hAe hX hl
  have hts : ∀ w ∈ lw_ok, w.before _ s = true := fun w h => hts0 w (List.mem_cons_of_mem _ h)
  have hown : s.vm.findClass R_S = some m.cls := hown
  have hP : va_P D cls (setsW hs hw cL w) s.heap := hP
  have hl : lv_has ls 6 [(0, .ref hs), (1, .int (nI to)), (2, .int (nI a)), (3, .int (nI b)), (4, .int (nI rows))] := hl
  refine lv_iconst (v := nI 0) hx hb d_S_exclusive_0 (by decide) ?_
  refine lv_istore (lv' := [(5, .int (nI 0)), (0, .ref hs), (1, .int (nI to)), (2, .int (nI a)), (3, .int (nI b)), (4, .int (nI rows))]) hx hb d_S_exclusive_1 hl (by decide) rfl (fun ls hl => ?_)
  refine w_loop 3 [] (rows * 16) (fun i H locs ls => va_P D cls (setsW hs hw cL (rset (fun i => w (a * 16 + i) ^^^ w (b * 16 + i)) to i w)) H ∧ va_D A (setsW hs hw cL (rset (fun i => w (a * 16 + i) ^^^ w (b * 16 + i)) to i w)) ∧ va_S A s.heap H locs ∧ lv_has ls 6 [(5, .int (nI i)), (0, .ref hs), (1, .int (nI to)), (2, .int (nI a)), (3, .int (nI b)), (4, .int (nI rows))]) ?_ 0 (Nat.zero_le _) _ _ ls ⟨by rw [rset_0]; exact hP, by rw [rset_0]; exact hD, hS, lv_sub hl [0, 1, 2, 3, 4, 5] rfl⟩
  intro i hi ih H locs ls ⟨hP, hD, hS, hl⟩
  refine lv_iload hx hb d_S_exclusive_3 (lv_at hl 0 rfl) ?_
  refine lv_iload hx hb d_S_exclusive_5 (lv_at hl 5 rfl) ?_
  refine lv_bipush (v := nI 16) hx hb d_S_exclusive_7 (by decide) ?_
  refine n_mul hx hb d_S_exclusive_9 ?_
  refine z_icmp_ge (tgt := 56) hx hb (nI_toInt (by omega)) (nI_toInt (by omega)) d_S_exclusive_10 (by decide) (fun c_10 => ?_) (fun c_10 => ?_)
  · obtain rfl : rows * 16 = i := by omega
    exact fn_vret hx hb hr hlocks hAe hK hP hD hS d_S_exclusive_56
  · refine lv_aload_n hx hb d_S_exclusive_13 rfl (lv_at hl 1 rfl) ?_
    refine va_get (D := D) (ci := 1) (v := .ref hw) (C := R_S) (T := F_S) (N := 1) hx hb hts in_S hown hK hP 0 rfl rfl 0 (by decide) (hts _ wd_32) (fun _ h9 => h9) rfl d_S_exclusive_14 ?_
    refine lv_iload_n hx hb d_S_exclusive_17 rfl (lv_at hl 2 rfl) ?_
    refine lv_bipush (v := nI 16) hx hb d_S_exclusive_18 (by decide) ?_
    refine n_mul hx hb d_S_exclusive_20 ?_
    refine lv_iload hx hb d_S_exclusive_21 (lv_at hl 0 rfl) ?_
    refine n_add hx hb d_S_exclusive_23 ?_
    refine lv_aload_n hx hb d_S_exclusive_24 rfl (lv_at hl 1 rfl) ?_
    refine va_get (D := D) (ci := 1) (v := .ref hw) (C := R_S) (T := F_S) (N := 1) hx hb hts in_S hown hK hP 0 rfl rfl 0 (by decide) (hts _ wd_32) (fun _ h9 => h9) rfl d_S_exclusive_25 ?_
    refine lv_iload_n hx hb d_S_exclusive_28 rfl (lv_at hl 3 rfl) ?_
    refine lv_bipush (v := nI 16) hx hb d_S_exclusive_29 (by decide) ?_
    refine n_mul hx hb d_S_exclusive_31 ?_
    refine lv_iload hx hb d_S_exclusive_32 (lv_at hl 0 rfl) ?_
    refine n_add hx hb d_S_exclusive_34 ?_
    refine n_lald hx hb hK hP 1 0 rfl rfl (i := (a * 16) + i) (by omega) (by omega) d_S_exclusive_35 ?_
    refine lv_aload_n hx hb d_S_exclusive_36 rfl (lv_at hl 1 rfl) ?_
    refine va_get (D := D) (ci := 1) (v := .ref hw) (C := R_S) (T := F_S) (N := 1) hx hb hts in_S hown hK hP 0 rfl rfl 0 (by decide) (hts _ wd_32) (fun _ h9 => h9) rfl d_S_exclusive_37 ?_
    refine lv_iload_n hx hb d_S_exclusive_40 rfl (lv_at hl 4 rfl) ?_
    refine lv_bipush (v := nI 16) hx hb d_S_exclusive_41 (by decide) ?_
    refine n_mul hx hb d_S_exclusive_43 ?_
    refine lv_iload hx hb d_S_exclusive_44 (lv_at hl 0 rfl) ?_
    refine n_add hx hb d_S_exclusive_46 ?_
    refine n_lald hx hb hK hP 1 0 rfl rfl (i := (b * 16) + i) (by omega) (by omega) d_S_exclusive_47 ?_
    refine lv_lxor hx hb d_S_exclusive_48 ?_
    refine n_last hx hb hK hP hD hS 1 0 rfl rfl (i := (to * 16) + i) (by omega) (by omega) (by rw [rset_rd _ w (to := to) (a := a) (i := i) (N := rows * 16) (by omega) (by omega), rset_rd _ w (to := to) (a := b) (i := i) (N := rows * 16) (by omega) (by omega)]; exact rset_st _ _ _ _) d_S_exclusive_49 (ws' := (setsW hs hw cL (rset (fun i => w (a * 16 + i) ^^^ w (b * 16 + i)) to (i + 1) w))) rfl (fun H locs hP hD hS => ?_)
    refine lv_iinc (v := nI (i + 1)) (lv' := [(5, .int (nI (i + 1))), (0, .ref hs), (1, .int (nI to)), (2, .int (nI a)), (3, .int (nI b)), (4, .int (nI rows))]) hx hb d_S_exclusive_50 hl (k := 0) rfl (by rw [← nI_1]; rfl) (by decide) rfl (fun ls hl => ?_)
    refine lv_goto (tgt := 3) hx hb d_S_exclusive_53 (by decide) ?_
    exact ih _ _ _ (by omega) ⟨hP, hD, hS, lv_sub hl [0, 1, 2, 3, 4, 5] rfl⟩
set_option maxHeartbeats 4000000 in
set_option maxRecDepth 100000 in
theorem c_S_copy (l : Launch) (D : va_G) (hs hw : Nat) (cL : ClassId) (w : Nat → Int64) (to a rows : Nat) (h1 : to + rows ≤ 260) (h2 : a + rows ≤ 260) (k2 : to ≤ a ∨ a + rows ≤ to) : Fn l y_S_copy (wk y_S_copy b_S_copy 5 none) rm_S_copy D cls [(cL, .long)] [.ref hs, .int (nI to), .int (nI a), .int (nI rows)] (setsW hs hw cL w) XT none (setsW hs hw cL (oCopy to a rows w)) := by
  refine Fn.of (by decide) rfl (Nat.le_of_ble_eq_true rfl) ?_
  intro p e s m below meth c A ls hx hb hml hr hts0 hown hlocks hnm hP hK hD hS hA hAe hX hl
  have hts : ∀ w ∈ lw_ok, w.before _ s = true := fun w h => hts0 w (List.mem_cons_of_mem _ h)
  have hown : s.vm.findClass R_S = some m.cls := hown
  have hP : va_P D cls (setsW hs hw cL w) s.heap := hP
  have hl : lv_has ls 5 [(0, .ref hs), (1, .int (nI to)), (2, .int (nI a)), (3, .int (nI rows))] := hl
  refine lv_iconst (v := nI 0) hx hb d_S_copy_0 (by decide) ?_
  refine lv_istore (lv' := [(4, .int (nI 0)), (0, .ref hs), (1, .int (nI to)), (2, .int (nI a)), (3, .int (nI rows))]) hx hb d_S_copy_1 hl (by decide) rfl (fun ls hl => ?_)
  refine w_loop 3 [] (rows * 16) (fun i H locs ls => va_P D cls (setsW hs hw cL (rset (fun i => w (a * 16 + i)) to i w)) H ∧ va_D A (setsW hs hw cL (rset (fun i => w (a * 16 + i)) to i w)) ∧ va_S A s.heap H locs ∧ lv_has ls 5 [(4, .int (nI i)), (0, .ref hs), (1, .int (nI to)), (2, .int (nI a)), (3, .int (nI rows))]) ?_ 0 (Nat.zero_le _) _ _ ls ⟨by rw [rset_0]; exact hP, by rw [rset_0]; exact hD, hS, lv_sub hl [0, 1, 2, 3, 4] rfl⟩
  intro i hi ih H locs ls ⟨hP, hD, hS, hl⟩
  refine lv_iload hx hb d_S_copy_3 (lv_at hl 0 rfl) ?_
  refine lv_iload_n hx hb d_S_copy_5 rfl (lv_at hl 4 rfl) ?_
  refine lv_bipush (v := nI 16) hx hb d_S_copy_6 (by decide) ?_
  refine n_mul hx hb d_S_copy_8 ?_
  refine z_icmp_ge (tgt := 42) hx hb (nI_toInt (by omega)) (nI_toInt (by omega)) d_S_copy_9 (by decide) (fun c_9 => ?_) (fun c_9 => ?_)
  · obtain rfl : rows * 16 = i := by omega
    exact fn_vret hx hb hr hlocks hAe hK hP hD hS d_S_copy_42
  · refine lv_aload_n hx hb d_S_copy_12 rfl (lv_at hl 1 rfl) ?_
    refine va_get (D := D) (ci := 1) (v := .ref hw) (C := R_S) (T := F_S) (N := 1) hx hb hts in_S hown hK hP 0 rfl rfl 0 (by decide) (hts _ wd_32) (fun _ h9 => h9) rfl d_S_copy_13 ?_
    refine lv_iload_n hx hb d_S_copy_16 rfl (lv_at hl 2 rfl) ?_
    refine lv_bipush (v := nI 16) hx hb d_S_copy_17 (by decide) ?_
    refine n_mul hx hb d_S_copy_19 ?_
    refine lv_iload hx hb d_S_copy_20 (lv_at hl 0 rfl) ?_
    refine n_add hx hb d_S_copy_22 ?_
    refine lv_aload_n hx hb d_S_copy_23 rfl (lv_at hl 1 rfl) ?_
    refine va_get (D := D) (ci := 1) (v := .ref hw) (C := R_S) (T := F_S) (N := 1) hx hb hts in_S hown hK hP 0 rfl rfl 0 (by decide) (hts _ wd_32) (fun _ h9 => h9) rfl d_S_copy_24 ?_
    refine lv_iload_n hx hb d_S_copy_27 rfl (lv_at hl 3 rfl) ?_
    refine lv_bipush (v := nI 16) hx hb d_S_copy_28 (by decide) ?_
    refine n_mul hx hb d_S_copy_30 ?_
    refine lv_iload hx hb d_S_copy_31 (lv_at hl 0 rfl) ?_
    refine n_add hx hb d_S_copy_33 ?_
    refine n_lald hx hb hK hP 1 0 rfl rfl (i := (a * 16) + i) (by omega) (by omega) d_S_copy_34 ?_
    refine n_last hx hb hK hP hD hS 1 0 rfl rfl (i := (to * 16) + i) (by omega) (by omega) (by rw [rset_rd _ w (to := to) (a := a) (i := i) (N := rows * 16) (by omega) (by omega)]; exact rset_st _ _ _ _) d_S_copy_35 (ws' := (setsW hs hw cL (rset (fun i => w (a * 16 + i)) to (i + 1) w))) rfl (fun H locs hP hD hS => ?_)
    refine lv_iinc (v := nI (i + 1)) (lv' := [(4, .int (nI (i + 1))), (0, .ref hs), (1, .int (nI to)), (2, .int (nI a)), (3, .int (nI rows))]) hx hb d_S_copy_36 hl (k := 0) rfl (by rw [← nI_1]; rfl) (by decide) rfl (fun ls hl => ?_)
    refine lv_goto (tgt := 3) hx hb d_S_copy_39 (by decide) ?_
    exact ih _ _ _ (by omega) ⟨hP, hD, hS, lv_sub hl [0, 1, 2, 3, 4] rfl⟩
set_option maxHeartbeats 4000000 in
set_option maxRecDepth 100000 in
theorem c_S_turn (l : Launch) (D : va_G) (hs hw : Nat) (cL : ClassId) (w : Nat → Int64) (to a rows : Nat) (h1 : to + rows ≤ 260) (h2 : a + rows ≤ 260) (k2 : to ≤ a ∨ a + rows ≤ to) : Fn l y_S_turn (wk y_S_turn b_S_turn 5 none) rm_S_turn D cls [(cL, .long)] [.ref hs, .int (nI to), .int (nI a), .int (nI rows)] (setsW hs hw cL w) XT none (setsW hs hw cL (oTurn to a rows w)) := by
  refine Fn.of (by decide) rfl (Nat.le_of_ble_eq_true rfl) ?_
  intro p e s m below meth c A ls hx hb hml hr hts0 hown hlocks hnm hP hK hD hS hA hAe hX hl
  have hts : ∀ w ∈ lw_ok, w.before _ s = true := fun w h => hts0 w (List.mem_cons_of_mem _ h)
  have hown : s.vm.findClass R_S = some m.cls := hown
  have hP : va_P D cls (setsW hs hw cL w) s.heap := hP
  have hl : lv_has ls 5 [(0, .ref hs), (1, .int (nI to)), (2, .int (nI a)), (3, .int (nI rows))] := hl
  refine lv_iconst (v := nI 0) hx hb d_S_turn_0 (by decide) ?_
  refine lv_istore (lv' := [(4, .int (nI 0)), (0, .ref hs), (1, .int (nI to)), (2, .int (nI a)), (3, .int (nI rows))]) hx hb d_S_turn_1 hl (by decide) rfl (fun ls hl => ?_)
  refine w_loop 3 [] (rows * 16) (fun i H locs ls => va_P D cls (setsW hs hw cL (rset (fun i => w (a * 16 + i) ^^^ (-1)) to i w)) H ∧ va_D A (setsW hs hw cL (rset (fun i => w (a * 16 + i) ^^^ (-1)) to i w)) ∧ va_S A s.heap H locs ∧ lv_has ls 5 [(4, .int (nI i)), (0, .ref hs), (1, .int (nI to)), (2, .int (nI a)), (3, .int (nI rows))]) ?_ 0 (Nat.zero_le _) _ _ ls ⟨by rw [rset_0]; exact hP, by rw [rset_0]; exact hD, hS, lv_sub hl [0, 1, 2, 3, 4] rfl⟩
  intro i hi ih H locs ls ⟨hP, hD, hS, hl⟩
  refine lv_iload hx hb d_S_turn_3 (lv_at hl 0 rfl) ?_
  refine lv_iload_n hx hb d_S_turn_5 rfl (lv_at hl 4 rfl) ?_
  refine lv_bipush (v := nI 16) hx hb d_S_turn_6 (by decide) ?_
  refine n_mul hx hb d_S_turn_8 ?_
  refine z_icmp_ge (tgt := 46) hx hb (nI_toInt (by omega)) (nI_toInt (by omega)) d_S_turn_9 (by decide) (fun c_9 => ?_) (fun c_9 => ?_)
  · obtain rfl : rows * 16 = i := by omega
    exact fn_vret hx hb hr hlocks hAe hK hP hD hS d_S_turn_46
  · refine lv_aload_n hx hb d_S_turn_12 rfl (lv_at hl 1 rfl) ?_
    refine va_get (D := D) (ci := 1) (v := .ref hw) (C := R_S) (T := F_S) (N := 1) hx hb hts in_S hown hK hP 0 rfl rfl 0 (by decide) (hts _ wd_32) (fun _ h9 => h9) rfl d_S_turn_13 ?_
    refine lv_iload_n hx hb d_S_turn_16 rfl (lv_at hl 2 rfl) ?_
    refine lv_bipush (v := nI 16) hx hb d_S_turn_17 (by decide) ?_
    refine n_mul hx hb d_S_turn_19 ?_
    refine lv_iload hx hb d_S_turn_20 (lv_at hl 0 rfl) ?_
    refine n_add hx hb d_S_turn_22 ?_
    refine lv_aload_n hx hb d_S_turn_23 rfl (lv_at hl 1 rfl) ?_
    refine va_get (D := D) (ci := 1) (v := .ref hw) (C := R_S) (T := F_S) (N := 1) hx hb hts in_S hown hK hP 0 rfl rfl 0 (by decide) (hts _ wd_32) (fun _ h9 => h9) rfl d_S_turn_24 ?_
    refine lv_iload_n hx hb d_S_turn_27 rfl (lv_at hl 3 rfl) ?_
    refine lv_bipush (v := nI 16) hx hb d_S_turn_28 (by decide) ?_
    refine n_mul hx hb d_S_turn_30 ?_
    refine lv_iload hx hb d_S_turn_31 (lv_at hl 0 rfl) ?_
    refine n_add hx hb d_S_turn_33 ?_
    refine n_lald hx hb hK hP 1 0 rfl rfl (i := (a * 16) + i) (by omega) (by omega) d_S_turn_34 ?_
    refine lv_ldc2 (v := -1) hx hb hown (hts _ wd_46) d_S_turn_35 ?_
    refine lv_lxor hx hb d_S_turn_38 ?_
    refine n_last hx hb hK hP hD hS 1 0 rfl rfl (i := (to * 16) + i) (by omega) (by omega) (by rw [rset_rd _ w (to := to) (a := a) (i := i) (N := rows * 16) (by omega) (by omega)]; exact rset_st _ _ _ _) d_S_turn_39 (ws' := (setsW hs hw cL (rset (fun i => w (a * 16 + i) ^^^ (-1)) to (i + 1) w))) rfl (fun H locs hP hD hS => ?_)
    refine lv_iinc (v := nI (i + 1)) (lv' := [(4, .int (nI (i + 1))), (0, .ref hs), (1, .int (nI to)), (2, .int (nI a)), (3, .int (nI rows))]) hx hb d_S_turn_40 hl (k := 0) rfl (by rw [← nI_1]; rfl) (by decide) rfl (fun ls hl => ?_)
    refine lv_goto (tgt := 3) hx hb d_S_turn_43 (by decide) ?_
    exact ih _ _ _ (by omega) ⟨hP, hD, hS, lv_sub hl [0, 1, 2, 3, 4] rfl⟩
set_option maxHeartbeats 4000000 in
set_option maxRecDepth 100000 in
theorem c_S_remove (l : Launch) (D : va_G) (hs hw : Nat) (cL : ClassId) (w : Nat → Int64) (to a : Nat) (h1 : to + 1 ≤ 260) (h2 : a + 1 ≤ 260) (k2 : to ≤ a ∨ a + 1 ≤ to) : Fn l y_S_remove (wk y_S_remove b_S_remove 4 none) rm_S_remove D cls [(cL, .long)] [.ref hs, .int (nI to), .int (nI a)] (setsW hs hw cL w) XT none (setsW hs hw cL (oRemove to a w)) := by
  refine Fn.of (by decide) rfl (Nat.le_of_ble_eq_true rfl) ?_
  intro p e s m below meth c A ls hx hb hml hr hts0 hown hlocks hnm hP hK hD hS hA hAe hX hl
  have hts : ∀ w ∈ lw_ok, w.before _ s = true := fun w h => hts0 w (List.mem_cons_of_mem _ h)
  have hown : s.vm.findClass R_S = some m.cls := hown
  have hP : va_P D cls (setsW hs hw cL w) s.heap := hP
  have hl : lv_has ls 4 [(0, .ref hs), (1, .int (nI to)), (2, .int (nI a))] := hl
  refine lv_iconst (v := nI 0) hx hb d_S_remove_0 (by decide) ?_
  refine lv_istore_n (lv' := [(3, .int (nI 0)), (0, .ref hs), (1, .int (nI to)), (2, .int (nI a))]) hx hb d_S_remove_1 rfl hl (by decide) rfl (fun ls hl => ?_)
  refine w_loop 2 [] (16) (fun i H locs ls => va_P D cls (setsW hs hw cL (rset (fun i => w (to * 16 + i) &&& (w (a * 16 + i) ^^^ (-1))) to i w)) H ∧ va_D A (setsW hs hw cL (rset (fun i => w (to * 16 + i) &&& (w (a * 16 + i) ^^^ (-1))) to i w)) ∧ va_S A s.heap H locs ∧ lv_has ls 4 [(3, .int (nI i)), (0, .ref hs), (1, .int (nI to)), (2, .int (nI a))]) ?_ 0 (Nat.zero_le _) _ _ ls ⟨by rw [rset_0]; exact hP, by rw [rset_0]; exact hD, hS, lv_sub hl [0, 1, 2, 3] rfl⟩
  intro i hi ih H locs ls ⟨hP, hD, hS, hl⟩
  refine lv_iload_n hx hb d_S_remove_2 rfl (lv_at hl 0 rfl) ?_
  refine lv_bipush (v := nI 16) hx hb d_S_remove_3 (by decide) ?_
  refine z_icmp_ge (tgt := 52) hx hb (nI_toInt (by omega)) (nI_toInt (by omega)) d_S_remove_5 (by decide) (fun c_5 => ?_) (fun c_5 => ?_)
  · obtain rfl : 16 = i := by omega
    exact fn_vret hx hb hr hlocks hAe hK hP hD hS d_S_remove_52
  · refine lv_aload_n hx hb d_S_remove_8 rfl (lv_at hl 1 rfl) ?_
    refine va_get (D := D) (ci := 1) (v := .ref hw) (C := R_S) (T := F_S) (N := 1) hx hb hts in_S hown hK hP 0 rfl rfl 0 (by decide) (hts _ wd_32) (fun _ h9 => h9) rfl d_S_remove_9 ?_
    refine lv_iload_n hx hb d_S_remove_12 rfl (lv_at hl 2 rfl) ?_
    refine lv_bipush (v := nI 16) hx hb d_S_remove_13 (by decide) ?_
    refine n_mul hx hb d_S_remove_15 ?_
    refine lv_iload_n hx hb d_S_remove_16 rfl (lv_at hl 0 rfl) ?_
    refine n_add hx hb d_S_remove_17 ?_
    refine lv_aload_n hx hb d_S_remove_18 rfl (lv_at hl 1 rfl) ?_
    refine va_get (D := D) (ci := 1) (v := .ref hw) (C := R_S) (T := F_S) (N := 1) hx hb hts in_S hown hK hP 0 rfl rfl 0 (by decide) (hts _ wd_32) (fun _ h9 => h9) rfl d_S_remove_19 ?_
    refine lv_iload_n hx hb d_S_remove_22 rfl (lv_at hl 2 rfl) ?_
    refine lv_bipush (v := nI 16) hx hb d_S_remove_23 (by decide) ?_
    refine n_mul hx hb d_S_remove_25 ?_
    refine lv_iload_n hx hb d_S_remove_26 rfl (lv_at hl 0 rfl) ?_
    refine n_add hx hb d_S_remove_27 ?_
    refine n_lald hx hb hK hP 1 0 rfl rfl (i := (to * 16) + i) (by omega) (by omega) d_S_remove_28 ?_
    refine lv_aload_n hx hb d_S_remove_29 rfl (lv_at hl 1 rfl) ?_
    refine va_get (D := D) (ci := 1) (v := .ref hw) (C := R_S) (T := F_S) (N := 1) hx hb hts in_S hown hK hP 0 rfl rfl 0 (by decide) (hts _ wd_32) (fun _ h9 => h9) rfl d_S_remove_30 ?_
    refine lv_iload_n hx hb d_S_remove_33 rfl (lv_at hl 3 rfl) ?_
    refine lv_bipush (v := nI 16) hx hb d_S_remove_34 (by decide) ?_
    refine n_mul hx hb d_S_remove_36 ?_
    refine lv_iload_n hx hb d_S_remove_37 rfl (lv_at hl 0 rfl) ?_
    refine n_add hx hb d_S_remove_38 ?_
    refine n_lald hx hb hK hP 1 0 rfl rfl (i := (a * 16) + i) (by omega) (by omega) d_S_remove_39 ?_
    refine lv_ldc2 (v := -1) hx hb hown (hts _ wd_46) d_S_remove_40 ?_
    refine lv_lxor hx hb d_S_remove_43 ?_
    refine lv_land hx hb d_S_remove_44 ?_
    refine n_last hx hb hK hP hD hS 1 0 rfl rfl (i := (to * 16) + i) (by omega) (by omega) (by rw [rset_rd _ w (to := to) (a := to) (i := i) (N := 16) (by omega) (by omega), rset_rd _ w (to := to) (a := a) (i := i) (N := 16) (by omega) (by omega)]; exact rset_st _ _ _ _) d_S_remove_45 (ws' := (setsW hs hw cL (rset (fun i => w (to * 16 + i) &&& (w (a * 16 + i) ^^^ (-1))) to (i + 1) w))) rfl (fun H locs hP hD hS => ?_)
    refine lv_iinc (v := nI (i + 1)) (lv' := [(3, .int (nI (i + 1))), (0, .ref hs), (1, .int (nI to)), (2, .int (nI a))]) hx hb d_S_remove_46 hl (k := 0) rfl (by rw [← nI_1]; rfl) (by decide) rfl (fun ls hl => ?_)
    refine lv_goto (tgt := 2) hx hb d_S_remove_49 (by decide) ?_
    exact ih _ _ _ (by omega) ⟨hP, hD, hS, lv_sub hl [0, 1, 2, 3] rfl⟩
set_option maxHeartbeats 4000000 in
set_option maxRecDepth 100000 in
theorem c_S_choose (l : Launch) (D : va_G) (hs hw : Nat) (cL : ClassId) (w : Nat → Int64) (to cd ye no : Nat) (h1 : to + 1 ≤ 260) (h2 : cd + 1 ≤ 260) (h3 : ye + 1 ≤ 260) (h4 : no + 1 ≤ 260) (k2 : to ≤ cd ∨ cd + 1 ≤ to) (k3 : to ≤ ye ∨ ye + 1 ≤ to) (k4 : to ≤ no ∨ no + 1 ≤ to) : Fn l y_S_choose (wk y_S_choose b_S_choose 8 none) rm_S_choose D cls [(cL, .long)] [.ref hs, .int (nI to), .int (nI cd), .int (nI ye), .int (nI no)] (setsW hs hw cL w) XT none (setsW hs hw cL (oChoose to cd ye no w)) := by
  refine Fn.of (by decide) rfl (Nat.le_of_ble_eq_true rfl) ?_
  intro p e s m below meth c A ls hx hb hml hr hts0 hown hlocks hnm hP hK hD hS hA hAe hX hl
  have hts : ∀ w ∈ lw_ok, w.before _ s = true := fun w h => hts0 w (List.mem_cons_of_mem _ h)
  have hown : s.vm.findClass R_S = some m.cls := hown
  have hP : va_P D cls (setsW hs hw cL w) s.heap := hP
  have hl : lv_has ls 8 [(0, .ref hs), (1, .int (nI to)), (2, .int (nI cd)), (3, .int (nI ye)), (4, .int (nI no))] := hl
  refine lv_iconst (v := nI 0) hx hb d_S_choose_0 (by decide) ?_
  refine lv_istore (lv' := [(5, .int (nI 0)), (0, .ref hs), (1, .int (nI to)), (2, .int (nI cd)), (3, .int (nI ye)), (4, .int (nI no))]) hx hb d_S_choose_1 hl (by decide) rfl (fun ls hl => ?_)
  refine w_loop 3 [] (16) (fun i H locs ls => va_P D cls (setsW hs hw cL (rset (fun i => (w (cd * 16 + i) &&& w (ye * 16 + i)) ||| ((w (cd * 16 + i) ^^^ (-1)) &&& w (no * 16 + i))) to i w)) H ∧ va_D A (setsW hs hw cL (rset (fun i => (w (cd * 16 + i) &&& w (ye * 16 + i)) ||| ((w (cd * 16 + i) ^^^ (-1)) &&& w (no * 16 + i))) to i w)) ∧ va_S A s.heap H locs ∧ lv_has ls 8 [(5, .int (nI i)), (0, .ref hs), (1, .int (nI to)), (2, .int (nI cd)), (3, .int (nI ye)), (4, .int (nI no))]) ?_ 0 (Nat.zero_le _) _ _ ls ⟨by rw [rset_0]; exact hP, by rw [rset_0]; exact hD, hS, lv_sub hl [0, 1, 2, 3, 4, 5] rfl⟩
  intro i hi ih H locs ls ⟨hP, hD, hS, hl⟩
  refine lv_iload hx hb d_S_choose_3 (lv_at hl 0 rfl) ?_
  refine lv_bipush (v := nI 16) hx hb d_S_choose_5 (by decide) ?_
  refine z_icmp_ge (tgt := 78) hx hb (nI_toInt (by omega)) (nI_toInt (by omega)) d_S_choose_7 (by decide) (fun c_7 => ?_) (fun c_7 => ?_)
  · obtain rfl : 16 = i := by omega
    exact fn_vret hx hb hr hlocks hAe hK hP hD hS d_S_choose_78
  · refine lv_aload_n hx hb d_S_choose_10 rfl (lv_at hl 1 rfl) ?_
    refine va_get (D := D) (ci := 1) (v := .ref hw) (C := R_S) (T := F_S) (N := 1) hx hb hts in_S hown hK hP 0 rfl rfl 0 (by decide) (hts _ wd_32) (fun _ h9 => h9) rfl d_S_choose_11 ?_
    refine lv_iload_n hx hb d_S_choose_14 rfl (lv_at hl 3 rfl) ?_
    refine lv_bipush (v := nI 16) hx hb d_S_choose_15 (by decide) ?_
    refine n_mul hx hb d_S_choose_17 ?_
    refine lv_iload hx hb d_S_choose_18 (lv_at hl 0 rfl) ?_
    refine n_add hx hb d_S_choose_20 ?_
    refine n_lald hx hb hK hP 1 0 rfl rfl (i := (cd * 16) + i) (by omega) (by omega) d_S_choose_21 ?_
    refine lv_lstore (lv' := [(6, .long ((rset (fun i => (w (cd * 16 + i) &&& w (ye * 16 + i)) ||| ((w (cd * 16 + i) ^^^ (-1)) &&& w (no * 16 + i))) to i w) ((cd * 16) + i))), (5, .int (nI i)), (0, .ref hs), (1, .int (nI to)), (2, .int (nI cd)), (3, .int (nI ye)), (4, .int (nI no))]) hx hb d_S_choose_22 hl (by decide) rfl (fun ls hl => ?_)
    refine lv_aload_n hx hb d_S_choose_24 rfl (lv_at hl 2 rfl) ?_
    refine va_get (D := D) (ci := 1) (v := .ref hw) (C := R_S) (T := F_S) (N := 1) hx hb hts in_S hown hK hP 0 rfl rfl 0 (by decide) (hts _ wd_32) (fun _ h9 => h9) rfl d_S_choose_25 ?_
    refine lv_iload_n hx hb d_S_choose_28 rfl (lv_at hl 3 rfl) ?_
    refine lv_bipush (v := nI 16) hx hb d_S_choose_29 (by decide) ?_
    refine n_mul hx hb d_S_choose_31 ?_
    refine lv_iload hx hb d_S_choose_32 (lv_at hl 1 rfl) ?_
    refine n_add hx hb d_S_choose_34 ?_
    refine lv_lload hx hb d_S_choose_35 (lv_at hl 0 rfl) ?_
    refine lv_aload_n hx hb d_S_choose_37 rfl (lv_at hl 2 rfl) ?_
    refine va_get (D := D) (ci := 1) (v := .ref hw) (C := R_S) (T := F_S) (N := 1) hx hb hts in_S hown hK hP 0 rfl rfl 0 (by decide) (hts _ wd_32) (fun _ h9 => h9) rfl d_S_choose_38 ?_
    refine lv_iload_n hx hb d_S_choose_41 rfl (lv_at hl 5 rfl) ?_
    refine lv_bipush (v := nI 16) hx hb d_S_choose_42 (by decide) ?_
    refine n_mul hx hb d_S_choose_44 ?_
    refine lv_iload hx hb d_S_choose_45 (lv_at hl 1 rfl) ?_
    refine n_add hx hb d_S_choose_47 ?_
    refine n_lald hx hb hK hP 1 0 rfl rfl (i := (ye * 16) + i) (by omega) (by omega) d_S_choose_48 ?_
    refine lv_land hx hb d_S_choose_49 ?_
    refine lv_lload hx hb d_S_choose_50 (lv_at hl 0 rfl) ?_
    refine lv_ldc2 (v := -1) hx hb hown (hts _ wd_46) d_S_choose_52 ?_
    refine lv_lxor hx hb d_S_choose_55 ?_
    refine lv_aload_n hx hb d_S_choose_56 rfl (lv_at hl 2 rfl) ?_
    refine va_get (D := D) (ci := 1) (v := .ref hw) (C := R_S) (T := F_S) (N := 1) hx hb hts in_S hown hK hP 0 rfl rfl 0 (by decide) (hts _ wd_32) (fun _ h9 => h9) rfl d_S_choose_57 ?_
    refine lv_iload hx hb d_S_choose_60 (lv_at hl 6 rfl) ?_
    refine lv_bipush (v := nI 16) hx hb d_S_choose_62 (by decide) ?_
    refine n_mul hx hb d_S_choose_64 ?_
    refine lv_iload hx hb d_S_choose_65 (lv_at hl 1 rfl) ?_
    refine n_add hx hb d_S_choose_67 ?_
    refine n_lald hx hb hK hP 1 0 rfl rfl (i := (no * 16) + i) (by omega) (by omega) d_S_choose_68 ?_
    refine lv_land hx hb d_S_choose_69 ?_
    refine lv_lor hx hb d_S_choose_70 ?_
    refine n_last hx hb hK hP hD hS 1 0 rfl rfl (i := (to * 16) + i) (by omega) (by omega) (by rw [rset_rd _ w (to := to) (a := cd) (i := i) (N := 16) (by omega) (by omega), rset_rd _ w (to := to) (a := ye) (i := i) (N := 16) (by omega) (by omega), rset_rd _ w (to := to) (a := no) (i := i) (N := 16) (by omega) (by omega)]; exact rset_st _ _ _ _) d_S_choose_71 (ws' := (setsW hs hw cL (rset (fun i => (w (cd * 16 + i) &&& w (ye * 16 + i)) ||| ((w (cd * 16 + i) ^^^ (-1)) &&& w (no * 16 + i))) to (i + 1) w))) rfl (fun H locs hP hD hS => ?_)
    refine lv_iinc (v := nI (i + 1)) (lv' := [(5, .int (nI (i + 1))), (6, .long ((rset (fun i => (w (cd * 16 + i) &&& w (ye * 16 + i)) ||| ((w (cd * 16 + i) ^^^ (-1)) &&& w (no * 16 + i))) to i w) ((cd * 16) + i))), (0, .ref hs), (1, .int (nI to)), (2, .int (nI cd)), (3, .int (nI ye)), (4, .int (nI no))]) hx hb d_S_choose_72 hl (k := 1) rfl (by rw [← nI_1]; rfl) (by decide) rfl (fun ls hl => ?_)
    refine lv_goto (tgt := 3) hx hb d_S_choose_75 (by decide) ?_
    exact ih _ _ _ (by omega) ⟨hP, hD, hS, lv_sub hl [0, 2, 3, 4, 5, 6] rfl⟩
set_option maxHeartbeats 4000000 in
set_option maxRecDepth 100000 in
theorem c_S_fill (l : Launch) (D : va_G) (hs hw : Nat) (cL : ClassId) (w : Nat → Int64) (to rows : Nat) (al : Bool) (h1 : to + rows ≤ 260) : Fn l y_S_fill (wk y_S_fill b_S_fill 5 none) rm_S_fill D cls [(cL, .long)] [.ref hs, .int (nI to), .int (nI rows), .int (bI al)] (setsW hs hw cL w) XT none (setsW hs hw cL (oFill al to rows w)) := by
  refine Fn.of (by decide) rfl (Nat.le_of_ble_eq_true rfl) ?_
  intro p e s m below meth c A ls hx hb hml hr hts0 hown hlocks hnm hP hK hD hS hA hAe hX hl
  have hts : ∀ w ∈ lw_ok, w.before _ s = true := fun w h => hts0 w (List.mem_cons_of_mem _ h)
  have hown : s.vm.findClass R_S = some m.cls := hown
  have hP : va_P D cls (setsW hs hw cL w) s.heap := hP
  have hl : lv_has ls 5 [(0, .ref hs), (1, .int (nI to)), (2, .int (nI rows)), (3, .int (bI al))] := hl
  refine lv_iconst (v := nI 0) hx hb d_S_fill_0 (by decide) ?_
  refine lv_istore (lv' := [(4, .int (nI 0)), (0, .ref hs), (1, .int (nI to)), (2, .int (nI rows)), (3, .int (bI al))]) hx hb d_S_fill_1 hl (by decide) rfl (fun ls hl => ?_)
  refine w_loop 3 [] (rows * 16) (fun i H locs ls => va_P D cls (setsW hs hw cL (rset (fun _ => bL al) to i w)) H ∧ va_D A (setsW hs hw cL (rset (fun _ => bL al) to i w)) ∧ va_S A s.heap H locs ∧ lv_has ls 5 [(4, .int (nI i)), (0, .ref hs), (1, .int (nI to)), (2, .int (nI rows)), (3, .int (bI al))]) ?_ 0 (Nat.zero_le _) _ _ ls ⟨by rw [rset_0]; exact hP, by rw [rset_0]; exact hD, hS, lv_sub hl [0, 1, 2, 3, 4] rfl⟩
  intro i hi ih H locs ls ⟨hP, hD, hS, hl⟩
  refine lv_iload hx hb d_S_fill_3 (lv_at hl 0 rfl) ?_
  refine lv_iload_n hx hb d_S_fill_5 rfl (lv_at hl 3 rfl) ?_
  refine lv_bipush (v := nI 16) hx hb d_S_fill_6 (by decide) ?_
  refine n_mul hx hb d_S_fill_8 ?_
  refine z_icmp_ge (tgt := 41) hx hb (nI_toInt (by omega)) (nI_toInt (by omega)) d_S_fill_9 (by decide) (fun c_9 => ?_) (fun c_9 => ?_)
  · obtain rfl : rows * 16 = i := by omega
    exact fn_vret hx hb hr hlocks hAe hK hP hD hS d_S_fill_41
  · refine lv_aload_n hx hb d_S_fill_12 rfl (lv_at hl 1 rfl) ?_
    refine va_get (D := D) (ci := 1) (v := .ref hw) (C := R_S) (T := F_S) (N := 1) hx hb hts in_S hown hK hP 0 rfl rfl 0 (by decide) (hts _ wd_32) (fun _ h9 => h9) rfl d_S_fill_13 ?_
    refine lv_iload_n hx hb d_S_fill_16 rfl (lv_at hl 2 rfl) ?_
    refine lv_bipush (v := nI 16) hx hb d_S_fill_17 (by decide) ?_
    refine n_mul hx hb d_S_fill_19 ?_
    refine lv_iload hx hb d_S_fill_20 (lv_at hl 0 rfl) ?_
    refine n_add hx hb d_S_fill_22 ?_
    refine lv_iload_n hx hb d_S_fill_23 rfl (lv_at hl 4 rfl) ?_
    refine b_if_eq (tgt := 33) hx hb d_S_fill_24 (by decide) (fun c_24 => ?_) (fun c_24 => ?_)
    · refine lv_lconst (v := 0) hx hb d_S_fill_33 (by decide) ?_
      refine n_last hx hb hK hP hD hS 1 0 rfl rfl (i := (to * 16) + i) (by omega) (by omega) (by rw [show (0 : Int64) = bL al by rw [c_24]; rfl]; exact rset_st (fun _ => bL al) _ _ _) d_S_fill_34 (ws' := (setsW hs hw cL (rset (fun _ => bL al) to (i + 1) w))) rfl (fun H locs hP hD hS => ?_)
      refine lv_iinc (v := nI (i + 1)) (lv' := [(4, .int (nI (i + 1))), (0, .ref hs), (1, .int (nI to)), (2, .int (nI rows)), (3, .int (bI al))]) hx hb d_S_fill_35 hl (k := 0) rfl (by rw [← nI_1]; rfl) (by decide) rfl (fun ls hl => ?_)
      refine lv_goto (tgt := 3) hx hb d_S_fill_38 (by decide) ?_
      exact ih _ _ _ (by omega) ⟨hP, hD, hS, lv_sub hl [0, 1, 2, 3, 4] rfl⟩
    · refine lv_ldc2 (v := -1) hx hb hown (hts _ wd_46) d_S_fill_27 ?_
      refine lv_goto (tgt := 34) hx hb d_S_fill_30 (by decide) ?_
      refine n_last hx hb hK hP hD hS 1 0 rfl rfl (i := (to * 16) + i) (by omega) (by omega) (by rw [show (-1 : Int64) = bL al by rw [c_24]; rfl]; exact rset_st (fun _ => bL al) _ _ _) d_S_fill_34 (ws' := (setsW hs hw cL (rset (fun _ => bL al) to (i + 1) w))) rfl (fun H locs hP hD hS => ?_)
      refine lv_iinc (v := nI (i + 1)) (lv' := [(4, .int (nI (i + 1))), (0, .ref hs), (1, .int (nI to)), (2, .int (nI rows)), (3, .int (bI al))]) hx hb d_S_fill_35 hl (k := 0) rfl (by rw [← nI_1]; rfl) (by decide) rfl (fun ls hl => ?_)
      refine lv_goto (tgt := 3) hx hb d_S_fill_38 (by decide) ?_
      exact ih _ _ _ (by omega) ⟨hP, hD, hS, lv_sub hl [0, 1, 2, 3, 4] rfl⟩
set_option maxHeartbeats 4000000 in
set_option maxRecDepth 100000 in
theorem c_S_wordByPlace (l : Launch) (D : va_G) (n0 t0 : Nat) (i place : Nat) (h1 : i < 16) (h2 : place < 10) : Fn l y_S_wordByPlace (wk y_S_wordByPlace b_S_wordByPlace 2 (some .long)) rm_S_wordByPlace D cls [] [.int (nI i), .int (nI place)] (nilW) (Zt n0 t0) (some (.long (wbp i place))) (nilW) := by
  refine Fn.of (by decide) rfl (Nat.le_of_ble_eq_true rfl) ?_
  intro p e s m below meth c A ls hx hb hml hr hts0 hown hlocks hnm hP hK hD hS hA hAe hX hl
  have hts : ∀ w ∈ lw_ok, w.before _ s = true := fun w h => hts0 w (List.mem_cons_of_mem _ h)
  have hown : s.vm.findClass R_S = some m.cls := hown
  have hP : va_P D cls (nilW) s.heap := hP
  have hl : lv_has ls 2 [(0, .int (nI i)), (1, .int (nI place))] := hl
  have hAn : ∀ q, A q → n0 ≤ q := fun q h => by rw [hAe] at h; exact Zt_A0 hX h
  refine lv_iload_n hx hb d_S_wordByPlace_0 rfl (lv_at hl 1 rfl) ?_
  refine lv_bipush (v := nI 6) hx hb d_S_wordByPlace_1 (by decide) ?_
  refine z_icmp_ge (tgt := 12) hx hb (nI_toInt (by omega)) (nI_toInt (by omega)) d_S_wordByPlace_3 (by decide) (fun c_3 => ?_) (fun c_3 => ?_)
  · refine lv_iload_n hx hb d_S_wordByPlace_12 rfl (lv_at hl 0 rfl) ?_
    refine lv_iload_n hx hb d_S_wordByPlace_13 rfl (lv_at hl 1 rfl) ?_
    refine lv_bipush (v := nI 6) hx hb d_S_wordByPlace_14 (by decide) ?_
    refine n_sub hx hb (by omega) d_S_wordByPlace_16 ?_
    refine n_shr hx hb (by omega) (by omega) d_S_wordByPlace_17 ?_
    refine lv_iconst (v := nI 1) hx hb d_S_wordByPlace_18 (by decide) ?_
    refine n_and1 hx hb d_S_wordByPlace_19 ?_
    refine lv_iconst (v := nI 1) hx hb d_S_wordByPlace_20 (by decide) ?_
    refine z_icmp_ne (tgt := 30) hx hb (nI_toInt (by omega)) (nI_toInt (by omega)) d_S_wordByPlace_21 (by decide) (fun c_21 => ?_) (fun c_21 => ?_)
    · refine lv_lconst (v := 0) hx hb d_S_wordByPlace_30 (by decide) ?_
      exact fn_lret hx hb hr hlocks hAe hK hP hD hS (wbp_0 (by omega) (by omega)) d_S_wordByPlace_31
    · refine lv_ldc2 (v := -1) hx hb hown (hts _ wd_46) d_S_wordByPlace_24 ?_
      refine lv_goto (tgt := 31) hx hb d_S_wordByPlace_27 (by decide) ?_
      exact fn_lret hx hb hr hlocks hAe hK hP hD hS (wbp_1 (by omega) (by omega)) d_S_wordByPlace_31
  · refine va_gets hx hb (hX.2.1.narrow hAn) hS hown (hts _ wd_283) (fun _ h9 => h9) d_S_wordByPlace_6 ?_
    refine lv_iload_n hx hb d_S_wordByPlace_9 rfl (lv_at hl 1 rfl) ?_
    refine va_tl hx hb (hX.2.2.narrow hAn) hS (vp_in_nI (n := place) (by omega) (by omega)) (v := .long (wbpT place)) (by rw [nI_clamp (by omega)]) d_S_wordByPlace_10 ?_
    exact fn_lret hx hb hr hlocks hAe hK hP hD hS (wbp_lo (by omega)) d_S_wordByPlace_11
set_option maxHeartbeats 4000000 in
set_option maxRecDepth 100000 in
theorem c_S_fillByPlace (l : Launch) (D : va_G) (n0 t0 : Nat) (hs hw : Nat) (cL : ClassId) (w : Nat → Int64) (to place : Nat) (h1 : to + 1 ≤ 260) (h2 : place < 10) (u1 : n0 ≤ hs) (u2 : n0 ≤ hw) : Fn l y_S_fillByPlace (wk y_S_fillByPlace b_S_fillByPlace 4 none) rm_S_fillByPlace D cls [(cL, .long)] [.ref hs, .int (nI to), .int (nI place)] (setsW hs hw cL w) (Zt n0 t0) none (setsW hs hw cL (oPlace to place w)) := by
  refine Fn.of (by decide) rfl (Nat.le_of_ble_eq_true rfl) ?_
  intro p e s m below meth c A ls hx hb hml hr hts0 hown hlocks hnm hP hK hD hS hA hAe hX hl
  have hts : ∀ w ∈ lw_ok, w.before _ s = true := fun w h => hts0 w (List.mem_cons_of_mem _ h)
  have hown : s.vm.findClass R_S = some m.cls := hown
  have hP : va_P D cls (setsW hs hw cL w) s.heap := hP
  have hl : lv_has ls 4 [(0, .ref hs), (1, .int (nI to)), (2, .int (nI place))] := hl
  have hAn : ∀ q, A q → n0 ≤ q := fun q h => by rw [hAe] at h; exact Zt_A2 hX u1 u2 h
  refine lv_iconst (v := nI 0) hx hb d_S_fillByPlace_0 (by decide) ?_
  refine lv_istore_n (lv' := [(3, .int (nI 0)), (0, .ref hs), (1, .int (nI to)), (2, .int (nI place))]) hx hb d_S_fillByPlace_1 rfl hl (by decide) rfl (fun ls hl => ?_)
  refine w_loop 2 [] (16) (fun i H locs ls => va_P D cls (setsW hs hw cL (rset (fun i => wbp i place) to i w)) H ∧ va_D A (setsW hs hw cL (rset (fun i => wbp i place) to i w)) ∧ va_S A s.heap H locs ∧ lv_has ls 4 [(3, .int (nI i)), (0, .ref hs), (1, .int (nI to)), (2, .int (nI place))]) ?_ 0 (Nat.zero_le _) _ _ ls ⟨by rw [rset_0]; exact hP, by rw [rset_0]; exact hD, hS, lv_sub hl [0, 1, 2, 3] rfl⟩
  intro i hi ih H locs ls ⟨hP, hD, hS, hl⟩
  refine lv_iload_n hx hb d_S_fillByPlace_2 rfl (lv_at hl 0 rfl) ?_
  refine lv_bipush (v := nI 16) hx hb d_S_fillByPlace_3 (by decide) ?_
  refine z_icmp_ge (tgt := 30) hx hb (nI_toInt (by omega)) (nI_toInt (by omega)) d_S_fillByPlace_5 (by decide) (fun c_5 => ?_) (fun c_5 => ?_)
  · obtain rfl : 16 = i := by omega
    exact fn_vret hx hb hr hlocks hAe hK hP hD hS d_S_fillByPlace_30
  · refine lv_aload_n hx hb d_S_fillByPlace_8 rfl (lv_at hl 1 rfl) ?_
    refine va_get (D := D) (ci := 1) (v := .ref hw) (C := R_S) (T := F_S) (N := 1) hx hb hts in_S hown hK hP 0 rfl rfl 0 (by decide) (hts _ wd_32) (fun _ h9 => h9) rfl d_S_fillByPlace_9 ?_
    refine lv_iload_n hx hb d_S_fillByPlace_12 rfl (lv_at hl 2 rfl) ?_
    refine lv_bipush (v := nI 16) hx hb d_S_fillByPlace_13 (by decide) ?_
    refine n_mul hx hb d_S_fillByPlace_15 ?_
    refine lv_iload_n hx hb d_S_fillByPlace_16 rfl (lv_at hl 0 rfl) ?_
    refine n_add hx hb d_S_fillByPlace_17 ?_
    refine lv_iload_n hx hb d_S_fillByPlace_18 rfl (lv_at hl 0 rfl) ?_
    refine lv_iload_n hx hb d_S_fillByPlace_19 rfl (lv_at hl 3 rfl) ?_
    refine fn_S (ws' := (setsW hs hw cL (rset (fun i => wbp i place) to i w))) (w1 := (nilW)) (wc := (nilW)) (wr := [(hs, .inr (1, [.ref hw])), (hw, .inl (cL, 4160, .inr (.inl (rset (fun i => wbp i place) to i w))))]) ⟨hx, hb, hml, hown, hts⟩ (c_S_wordByPlace l D n0 t0 i place (by omega) (by omega)) ⟨callB_of 2 hts (gW wd_282) rfl rfl rfl (hts _ wd_3) (hts _ wd_280) hd_S_wordByPlace ⟨Nat.le_of_ble_eq_true rfl, Nat.le_of_ble_eq_true rfl⟩, hts _ wd_281⟩ Zt_ok (Zt_kept hX hS hAn) hK hP hD hS hA [] [] [0, 1] [0, 1] rfl rfl rfl rfl rfl (by decide) rfl rfl rfl hl.1 rfl (Nat.le_of_ble_eq_true rfl) d_S_fillByPlace_20 ⟨Nat.zero_le _, Nat.zero_le _⟩ (st1 := [.long (wbp i place), .int (nI ((to * 16) + i)), .ref hw]) rfl (fun H locs hP hD hS => ?_)
    refine n_last hx hb hK hP hD hS 1 0 rfl rfl (i := (to * 16) + i) (by omega) (by omega) (rset_st (fun i => wbp i place) _ _ _) d_S_fillByPlace_23 (ws' := (setsW hs hw cL (rset (fun i => wbp i place) to (i + 1) w))) rfl (fun H locs hP hD hS => ?_)
    refine lv_iinc (v := nI (i + 1)) (lv' := [(3, .int (nI (i + 1))), (0, .ref hs), (1, .int (nI to)), (2, .int (nI place))]) hx hb d_S_fillByPlace_24 hl (k := 0) rfl (by rw [← nI_1]; rfl) (by decide) rfl (fun ls hl => ?_)
    refine lv_goto (tgt := 2) hx hb d_S_fillByPlace_27 (by decide) ?_
    exact ih _ _ _ (by omega) ⟨hP, hD, hS, lv_sub hl [0, 1, 2, 3] rfl⟩
set_option maxHeartbeats 4000000 in
set_option maxRecDepth 100000 in
theorem c_S_isWithout (l : Launch) (D : va_G) (hs hw : Nat) (cL : ClassId) (w : Nat → Int64) (a b : Nat) (h1 : a + 1 ≤ 260) (h2 : b + 1 ≤ 260) : Fn l y_S_isWithout (wk y_S_isWithout b_S_isWithout 4 (some .boolean)) rm_S_isWithout D cls [(cL, .long)] [.ref hs, .int (nI a), .int (nI b)] (setsW hs hw cL w) XT (some (.int (bI (pNone w a b)))) (setsW hs hw cL w) := by
  refine Fn.of (by decide) rfl (Nat.le_of_ble_eq_true rfl) ?_
  intro p e s m below meth c A ls hx hb hml hr hts0 hown hlocks hnm hP hK hD hS hA hAe hX hl
  have hts : ∀ w ∈ lw_ok, w.before _ s = true := fun w h => hts0 w (List.mem_cons_of_mem _ h)
  have hown : s.vm.findClass R_S = some m.cls := hown
  have hP : va_P D cls (setsW hs hw cL w) s.heap := hP
  have hl : lv_has ls 4 [(0, .ref hs), (1, .int (nI a)), (2, .int (nI b))] := hl
  refine lv_iconst (v := nI 0) hx hb d_S_isWithout_0 (by decide) ?_
  refine lv_istore_n (lv' := [(3, .int (nI 0)), (0, .ref hs), (1, .int (nI a)), (2, .int (nI b))]) hx hb d_S_isWithout_1 rfl hl (by decide) rfl (fun ls hl => ?_)
  refine w_loop 2 [] (16) (fun i H locs ls => va_P D cls (setsW hs hw cL w) H ∧ va_D A (setsW hs hw cL w) ∧ va_S A s.heap H locs ∧ lv_has ls 4 [(3, .int (nI i)), (0, .ref hs), (1, .int (nI a)), (2, .int (nI b))] ∧ ∀ j, j < i → w (a * 16 + j) &&& w (b * 16 + j) = 0) ?_ 0 (Nat.zero_le _) _ _ ls ⟨hP, hD, hS, lv_sub hl [0, 1, 2, 3] rfl, fun j hj => absurd hj (Nat.not_lt_zero j)⟩
  intro i hi ih H locs ls ⟨hP, hD, hS, hl, hJ⟩
  refine lv_iload_n hx hb d_S_isWithout_2 rfl (lv_at hl 0 rfl) ?_
  refine lv_bipush (v := nI 16) hx hb d_S_isWithout_3 (by decide) ?_
  refine z_icmp_ge (tgt := 44) hx hb (nI_toInt (by omega)) (nI_toInt (by omega)) d_S_isWithout_5 (by decide) (fun c_5 => ?_) (fun c_5 => ?_)
  · refine lv_iconst (v := nI 1) hx hb d_S_isWithout_44 (by decide) ?_
    exact fn_zret hx hb hr hlocks hAe hK hP hD hS (by rw [pNone_yes (fun j hj => hJ j (by omega))]; rfl) d_S_isWithout_45
  · refine lv_aload_n hx hb d_S_isWithout_8 rfl (lv_at hl 1 rfl) ?_
    refine va_get (D := D) (ci := 1) (v := .ref hw) (C := R_S) (T := F_S) (N := 1) hx hb hts in_S hown hK hP 0 rfl rfl 0 (by decide) (hts _ wd_32) (fun _ h9 => h9) rfl d_S_isWithout_9 ?_
    refine lv_iload_n hx hb d_S_isWithout_12 rfl (lv_at hl 2 rfl) ?_
    refine lv_bipush (v := nI 16) hx hb d_S_isWithout_13 (by decide) ?_
    refine n_mul hx hb d_S_isWithout_15 ?_
    refine lv_iload_n hx hb d_S_isWithout_16 rfl (lv_at hl 0 rfl) ?_
    refine n_add hx hb d_S_isWithout_17 ?_
    refine n_lald hx hb hK hP 1 0 rfl rfl (i := (a * 16) + i) (by omega) (by omega) d_S_isWithout_18 ?_
    refine lv_aload_n hx hb d_S_isWithout_19 rfl (lv_at hl 1 rfl) ?_
    refine va_get (D := D) (ci := 1) (v := .ref hw) (C := R_S) (T := F_S) (N := 1) hx hb hts in_S hown hK hP 0 rfl rfl 0 (by decide) (hts _ wd_32) (fun _ h9 => h9) rfl d_S_isWithout_20 ?_
    refine lv_iload_n hx hb d_S_isWithout_23 rfl (lv_at hl 3 rfl) ?_
    refine lv_bipush (v := nI 16) hx hb d_S_isWithout_24 (by decide) ?_
    refine n_mul hx hb d_S_isWithout_26 ?_
    refine lv_iload_n hx hb d_S_isWithout_27 rfl (lv_at hl 0 rfl) ?_
    refine n_add hx hb d_S_isWithout_28 ?_
    refine n_lald hx hb hK hP 1 0 rfl rfl (i := (b * 16) + i) (by omega) (by omega) d_S_isWithout_29 ?_
    refine lv_land hx hb d_S_isWithout_30 ?_
    refine lv_lconst (v := 0) hx hb d_S_isWithout_31 (by decide) ?_
    refine W.lcmp hx hb d_S_isWithout_32 ?_
    refine l_if_eq (tgt := 38) hx hb d_S_isWithout_33 (by decide) (fun c_33 => ?_) (fun c_33 => ?_)
    · refine lv_iinc (v := nI (i + 1)) (lv' := [(3, .int (nI (i + 1))), (0, .ref hs), (1, .int (nI a)), (2, .int (nI b))]) hx hb d_S_isWithout_38 hl (k := 0) rfl (by rw [← nI_1]; rfl) (by decide) rfl (fun ls hl => ?_)
      refine lv_goto (tgt := 2) hx hb d_S_isWithout_41 (by decide) ?_
      exact ih _ _ _ (by omega) ⟨hP, hD, hS, lv_sub hl [0, 1, 2, 3] rfl, lt_s hJ c_33⟩
    · refine lv_iconst (v := nI 0) hx hb d_S_isWithout_36 (by decide) ?_
      exact fn_zret hx hb hr hlocks hAe hK hP hD hS (by rw [pNone_no (by omega) c_33]; rfl) d_S_isWithout_37
set_option maxHeartbeats 4000000 in
set_option maxRecDepth 100000 in
theorem c_S_isWithin (l : Launch) (D : va_G) (hs hw : Nat) (cL : ClassId) (w : Nat → Int64) (a b : Nat) (h1 : a + 1 ≤ 260) (h2 : b + 1 ≤ 260) : Fn l y_S_isWithin (wk y_S_isWithin b_S_isWithin 4 (some .boolean)) rm_S_isWithin D cls [(cL, .long)] [.ref hs, .int (nI a), .int (nI b)] (setsW hs hw cL w) XT (some (.int (bI (pWithin w a b)))) (setsW hs hw cL w) := by
  refine Fn.of (by decide) rfl (Nat.le_of_ble_eq_true rfl) ?_
  intro p e s m below meth c A ls hx hb hml hr hts0 hown hlocks hnm hP hK hD hS hA hAe hX hl
  have hts : ∀ w ∈ lw_ok, w.before _ s = true := fun w h => hts0 w (List.mem_cons_of_mem _ h)
  have hown : s.vm.findClass R_S = some m.cls := hown
  have hP : va_P D cls (setsW hs hw cL w) s.heap := hP
  have hl : lv_has ls 4 [(0, .ref hs), (1, .int (nI a)), (2, .int (nI b))] := hl
  refine lv_iconst (v := nI 0) hx hb d_S_isWithin_0 (by decide) ?_
  refine lv_istore_n (lv' := [(3, .int (nI 0)), (0, .ref hs), (1, .int (nI a)), (2, .int (nI b))]) hx hb d_S_isWithin_1 rfl hl (by decide) rfl (fun ls hl => ?_)
  refine w_loop 2 [] (16) (fun i H locs ls => va_P D cls (setsW hs hw cL w) H ∧ va_D A (setsW hs hw cL w) ∧ va_S A s.heap H locs ∧ lv_has ls 4 [(3, .int (nI i)), (0, .ref hs), (1, .int (nI a)), (2, .int (nI b))] ∧ ∀ j, j < i → w (a * 16 + j) &&& (w (b * 16 + j) ^^^ (-1)) = 0) ?_ 0 (Nat.zero_le _) _ _ ls ⟨hP, hD, hS, lv_sub hl [0, 1, 2, 3] rfl, fun j hj => absurd hj (Nat.not_lt_zero j)⟩
  intro i hi ih H locs ls ⟨hP, hD, hS, hl, hJ⟩
  refine lv_iload_n hx hb d_S_isWithin_2 rfl (lv_at hl 0 rfl) ?_
  refine lv_bipush (v := nI 16) hx hb d_S_isWithin_3 (by decide) ?_
  refine z_icmp_ge (tgt := 48) hx hb (nI_toInt (by omega)) (nI_toInt (by omega)) d_S_isWithin_5 (by decide) (fun c_5 => ?_) (fun c_5 => ?_)
  · refine lv_iconst (v := nI 1) hx hb d_S_isWithin_48 (by decide) ?_
    exact fn_zret hx hb hr hlocks hAe hK hP hD hS (by rw [pWithin_yes (fun j hj => hJ j (by omega))]; rfl) d_S_isWithin_49
  · refine lv_aload_n hx hb d_S_isWithin_8 rfl (lv_at hl 1 rfl) ?_
    refine va_get (D := D) (ci := 1) (v := .ref hw) (C := R_S) (T := F_S) (N := 1) hx hb hts in_S hown hK hP 0 rfl rfl 0 (by decide) (hts _ wd_32) (fun _ h9 => h9) rfl d_S_isWithin_9 ?_
    refine lv_iload_n hx hb d_S_isWithin_12 rfl (lv_at hl 2 rfl) ?_
    refine lv_bipush (v := nI 16) hx hb d_S_isWithin_13 (by decide) ?_
    refine n_mul hx hb d_S_isWithin_15 ?_
    refine lv_iload_n hx hb d_S_isWithin_16 rfl (lv_at hl 0 rfl) ?_
    refine n_add hx hb d_S_isWithin_17 ?_
    refine n_lald hx hb hK hP 1 0 rfl rfl (i := (a * 16) + i) (by omega) (by omega) d_S_isWithin_18 ?_
    refine lv_aload_n hx hb d_S_isWithin_19 rfl (lv_at hl 1 rfl) ?_
    refine va_get (D := D) (ci := 1) (v := .ref hw) (C := R_S) (T := F_S) (N := 1) hx hb hts in_S hown hK hP 0 rfl rfl 0 (by decide) (hts _ wd_32) (fun _ h9 => h9) rfl d_S_isWithin_20 ?_
    refine lv_iload_n hx hb d_S_isWithin_23 rfl (lv_at hl 3 rfl) ?_
    refine lv_bipush (v := nI 16) hx hb d_S_isWithin_24 (by decide) ?_
    refine n_mul hx hb d_S_isWithin_26 ?_
    refine lv_iload_n hx hb d_S_isWithin_27 rfl (lv_at hl 0 rfl) ?_
    refine n_add hx hb d_S_isWithin_28 ?_
    refine n_lald hx hb hK hP 1 0 rfl rfl (i := (b * 16) + i) (by omega) (by omega) d_S_isWithin_29 ?_
    refine lv_ldc2 (v := -1) hx hb hown (hts _ wd_46) d_S_isWithin_30 ?_
    refine lv_lxor hx hb d_S_isWithin_33 ?_
    refine lv_land hx hb d_S_isWithin_34 ?_
    refine lv_lconst (v := 0) hx hb d_S_isWithin_35 (by decide) ?_
    refine W.lcmp hx hb d_S_isWithin_36 ?_
    refine l_if_eq (tgt := 42) hx hb d_S_isWithin_37 (by decide) (fun c_37 => ?_) (fun c_37 => ?_)
    · refine lv_iinc (v := nI (i + 1)) (lv' := [(3, .int (nI (i + 1))), (0, .ref hs), (1, .int (nI a)), (2, .int (nI b))]) hx hb d_S_isWithin_42 hl (k := 0) rfl (by rw [← nI_1]; rfl) (by decide) rfl (fun ls hl => ?_)
      refine lv_goto (tgt := 2) hx hb d_S_isWithin_45 (by decide) ?_
      exact ih _ _ _ (by omega) ⟨hP, hD, hS, lv_sub hl [0, 1, 2, 3] rfl, lt_s hJ c_37⟩
    · refine lv_iconst (v := nI 0) hx hb d_S_isWithin_40 (by decide) ?_
      exact fn_zret hx hb hr hlocks hAe hK hP hD hS (by rw [pWithin_no (by omega) c_37]; rfl) d_S_isWithin_41
set_option maxHeartbeats 4000000 in
set_option maxRecDepth 100000 in
theorem c_S_isEmpty (l : Launch) (D : va_G) (hs hw : Nat) (cL : ClassId) (w : Nat → Int64) (a : Nat) (h1 : a + 1 ≤ 260) : Fn l y_S_isEmpty (wk y_S_isEmpty b_S_isEmpty 2 (some .boolean)) rm_S_isEmpty D cls [(cL, .long)] [.ref hs, .int (nI a)] (setsW hs hw cL w) XT (some (.int (bI (pNone w a a)))) (setsW hs hw cL w) := by
  refine Fn.of (by decide) rfl (Nat.le_of_ble_eq_true rfl) ?_
  intro p e s m below meth c A ls hx hb hml hr hts0 hown hlocks hnm hP hK hD hS hA hAe hX hl
  have hts : ∀ w ∈ lw_ok, w.before _ s = true := fun w h => hts0 w (List.mem_cons_of_mem _ h)
  have hown : s.vm.findClass R_S = some m.cls := hown
  have hP : va_P D cls (setsW hs hw cL w) s.heap := hP
  have hl : lv_has ls 2 [(0, .ref hs), (1, .int (nI a))] := hl
  refine lv_aload_n hx hb d_S_isEmpty_0 rfl (lv_at hl 0 rfl) ?_
  refine lv_iload_n hx hb d_S_isEmpty_1 rfl (lv_at hl 1 rfl) ?_
  refine lv_iload_n hx hb d_S_isEmpty_2 rfl (lv_at hl 1 rfl) ?_
  refine fn_V (ws' := (setsW hs hw cL w)) (w1 := (setsW hs hw cL w)) (wc := (setsW hs hw cL w)) (wr := []) ⟨hx, hb, hml, hown, hts⟩ (c_S_isWithout l D hs hw cL w a a (by omega) (by omega)) ⟨callB_of 2 hts (gW wd_110) rfl rfl rfl (hts _ wd_3) (hts _ wd_107) hd_S_isWithout ⟨Nat.le_of_ble_eq_true rfl, Nat.le_of_ble_eq_true rfl⟩, hts _ wd_109, hts _ wd_p2⟩ XT_ok (fun _ _ _ => trivial) hK hP hD hS hA 0 1 rfl rfl rfl [0] [0, 1] [] [0, 1] rfl rfl rfl rfl rfl (by decide) rfl rfl rfl hl.1 rfl (Nat.le_of_ble_eq_true rfl) d_S_isEmpty_3 ⟨Nat.zero_le _, Nat.zero_le _⟩ (st1 := [.int (bI (pNone w a a))]) rfl (fun H locs hP hD hS => ?_)
  exact fn_zret hx hb hr hlocks hAe hK hP hD hS rfl d_S_isEmpty_6
set_option maxHeartbeats 4000000 in
set_option maxRecDepth 100000 in
theorem c_S_meets (l : Launch) (D : va_G) (hs hw : Nat) (cL : ClassId) (w : Nat → Int64) (a b : Nat) (h1 : a + 1 ≤ 260) (h2 : b + 1 ≤ 260) : Fn l y_S_meets (wk y_S_meets b_S_meets 3 (some .boolean)) rm_S_meets D cls [(cL, .long)] [.ref hs, .int (nI a), .int (nI b)] (setsW hs hw cL w) XT (some (.int (bI (!pNone w a b)))) (setsW hs hw cL w) := by
  refine Fn.of (by decide) rfl (Nat.le_of_ble_eq_true rfl) ?_
  intro p e s m below meth c A ls hx hb hml hr hts0 hown hlocks hnm hP hK hD hS hA hAe hX hl
  have hts : ∀ w ∈ lw_ok, w.before _ s = true := fun w h => hts0 w (List.mem_cons_of_mem _ h)
  have hown : s.vm.findClass R_S = some m.cls := hown
  have hP : va_P D cls (setsW hs hw cL w) s.heap := hP
  have hl : lv_has ls 3 [(0, .ref hs), (1, .int (nI a)), (2, .int (nI b))] := hl
  refine lv_aload_n hx hb d_S_meets_0 rfl (lv_at hl 0 rfl) ?_
  refine lv_iload_n hx hb d_S_meets_1 rfl (lv_at hl 1 rfl) ?_
  refine lv_iload_n hx hb d_S_meets_2 rfl (lv_at hl 2 rfl) ?_
  refine fn_V (ws' := (setsW hs hw cL w)) (w1 := (setsW hs hw cL w)) (wc := (setsW hs hw cL w)) (wr := []) ⟨hx, hb, hml, hown, hts⟩ (c_S_isWithout l D hs hw cL w a b (by omega) (by omega)) ⟨callB_of 2 hts (gW wd_110) rfl rfl rfl (hts _ wd_3) (hts _ wd_107) hd_S_isWithout ⟨Nat.le_of_ble_eq_true rfl, Nat.le_of_ble_eq_true rfl⟩, hts _ wd_109, hts _ wd_p2⟩ XT_ok (fun _ _ _ => trivial) hK hP hD hS hA 0 1 rfl rfl rfl [0] [0, 1] [] [0, 1] rfl rfl rfl rfl rfl (by decide) rfl rfl rfl hl.1 rfl (Nat.le_of_ble_eq_true rfl) d_S_meets_3 ⟨Nat.zero_le _, Nat.zero_le _⟩ (st1 := [.int (bI (pNone w a b))]) rfl (fun H locs hP hD hS => ?_)
  refine b_if_ne (tgt := 13) hx hb d_S_meets_6 (by decide) (fun c_6 => ?_) (fun c_6 => ?_)
  · refine lv_iconst (v := nI 0) hx hb d_S_meets_13 (by decide) ?_
    exact fn_zret hx hb hr hlocks hAe hK hP hD hS (by rw [c_6]; rfl) d_S_meets_14
  · refine lv_iconst (v := nI 1) hx hb d_S_meets_9 (by decide) ?_
    refine lv_goto (tgt := 14) hx hb d_S_meets_10 (by decide) ?_
    exact fn_zret hx hb hr hlocks hAe hK hP hD hS (by rw [c_6]; rfl) d_S_meets_14
set_option maxHeartbeats 4000000 in
set_option maxRecDepth 100000 in
theorem c_S_contains (l : Launch) (D : va_G) (hs hw : Nat) (cL : ClassId) (w : Nat → Int64) (r x : Nat) (h1 : r + 1 ≤ 260) (h2 : x < 1024) : Fn l y_S_contains (wk y_S_contains b_S_contains 5 (some .boolean)) rm_S_contains D cls [(cL, .long)] [.ref hs, .int (nI r), .int (nI x)] (setsW hs hw cL w) XT (some (.int (bI (pBit w r x)))) (setsW hs hw cL w) := by
  refine Fn.of (by decide) rfl (Nat.le_of_ble_eq_true rfl) ?_
  intro p e s m below meth c A ls hx hb hml hr hts0 hown hlocks hnm hP hK hD hS hA hAe hX hl
  have hts : ∀ w ∈ lw_ok, w.before _ s = true := fun w h => hts0 w (List.mem_cons_of_mem _ h)
  have hown : s.vm.findClass R_S = some m.cls := hown
  have hP : va_P D cls (setsW hs hw cL w) s.heap := hP
  have hl : lv_has ls 5 [(0, .ref hs), (1, .int (nI r)), (2, .int (nI x))] := hl
  refine lv_aload_n hx hb d_S_contains_0 rfl (lv_at hl 0 rfl) ?_
  refine va_get (D := D) (ci := 1) (v := .ref hw) (C := R_S) (T := F_S) (N := 1) hx hb hts in_S hown hK hP 0 rfl rfl 0 (by decide) (hts _ wd_32) (fun _ h9 => h9) rfl d_S_contains_1 ?_
  refine lv_iload_n hx hb d_S_contains_4 rfl (lv_at hl 1 rfl) ?_
  refine lv_bipush (v := nI 16) hx hb d_S_contains_5 (by decide) ?_
  refine n_mul hx hb d_S_contains_7 ?_
  refine lv_iload_n hx hb d_S_contains_8 rfl (lv_at hl 2 rfl) ?_
  refine lv_bipush (v := nI 64) hx hb d_S_contains_9 (by decide) ?_
  refine n_div hx hb (by omega) (by omega) (by omega) d_S_contains_11 ?_
  refine n_add hx hb d_S_contains_12 ?_
  refine n_lald hx hb hK hP 1 0 rfl rfl (i := (r * 16) + (x / 64)) (by omega) (by omega) d_S_contains_13 ?_
  refine lv_lstore_n (lv' := [(3, .long (w ((r * 16) + (x / 64)))), (0, .ref hs), (1, .int (nI r)), (2, .int (nI x))]) hx hb d_S_contains_14 rfl hl (by decide) rfl (fun ls hl => ?_)
  refine lv_lload_n hx hb d_S_contains_15 rfl (lv_at hl 0 rfl) ?_
  refine lv_iload_n hx hb d_S_contains_16 rfl (lv_at hl 3 rfl) ?_
  refine lv_bipush (v := nI 64) hx hb d_S_contains_17 (by decide) ?_
  refine n_rem hx hb (by omega) (by omega) (by omega) d_S_contains_19 ?_
  refine lv_lushr hx hb d_S_contains_20 rfl ?_
  refine lv_lconst (v := 1) hx hb d_S_contains_21 (by decide) ?_
  refine lv_land hx hb d_S_contains_22 ?_
  refine lv_lconst (v := 1) hx hb d_S_contains_23 (by decide) ?_
  refine W.lcmp hx hb d_S_contains_24 ?_
  refine l_if_ne (tgt := 32) hx hb d_S_contains_25 (by decide) (fun c_25 => ?_) (fun c_25 => ?_)
  · refine lv_iconst (v := nI 0) hx hb d_S_contains_32 (by decide) ?_
    exact fn_zret hx hb hr hlocks hAe hK hP hD hS (by rw [pBit_no (by omega) c_25]; rfl) d_S_contains_33
  · refine lv_iconst (v := nI 1) hx hb d_S_contains_28 (by decide) ?_
    refine lv_goto (tgt := 33) hx hb d_S_contains_29 (by decide) ?_
    exact fn_zret hx hb hr hlocks hAe hK hP hD hS (by rw [pBit_yes (by omega) c_25]; rfl) d_S_contains_33
set_option maxHeartbeats 4000000 in
set_option maxRecDepth 100000 in
theorem c_S_lowestOne (l : Launch) (D : va_G) (x : Int64) : Fn l y_S_lowestOne (wk y_S_lowestOne b_S_lowestOne 3 (some .int)) rm_S_lowestOne D cls [] [.long x] (nilW) XT (some (.int (nI (lowB x 63 0)))) (nilW) := by
  refine Fn.of (by decide) rfl (Nat.le_of_ble_eq_true rfl) ?_
  intro p e s m below meth c A ls hx hb hml hr hts0 hown hlocks hnm hP hK hD hS hA hAe hX hl
  have hts : ∀ w ∈ lw_ok, w.before _ s = true := fun w h => hts0 w (List.mem_cons_of_mem _ h)
  have hown : s.vm.findClass R_S = some m.cls := hown
  have hP : va_P D cls (nilW) s.heap := hP
  have hl : lv_has ls 3 [(0, .long x)] := hl
  refine lv_iconst (v := nI 0) hx hb d_S_lowestOne_0 (by decide) ?_
  refine lv_istore_n (lv' := [(2, .int (nI 0)), (0, .long x)]) hx hb d_S_lowestOne_1 rfl hl (by decide) rfl (fun ls hl => ?_)
  refine w_loop 2 [] (63) (fun i H locs ls => va_P D cls (nilW) H ∧ va_D A (nilW) ∧ va_S A s.heap H locs ∧ lv_has ls 3 [(2, .int (nI i)), (0, .long x)] ∧ lowB x 63 0 = lowB x (63 - i) i) ?_ 0 (Nat.zero_le _) _ _ ls ⟨hP, hD, hS, lv_sub hl [0, 1] rfl, rfl⟩
  intro i hi ih H locs ls ⟨hP, hD, hS, hl, hJ⟩
  refine lv_iload_n hx hb d_S_lowestOne_2 rfl (lv_at hl 0 rfl) ?_
  refine lv_bipush (v := nI 63) hx hb d_S_lowestOne_3 (by decide) ?_
  refine z_icmp_ge (tgt := 24) hx hb (nI_toInt (by omega)) (nI_toInt (by omega)) d_S_lowestOne_5 (by decide) (fun c_5 => ?_) (fun c_5 => ?_)
  · refine lv_iload_n hx hb d_S_lowestOne_24 rfl (lv_at hl 0 rfl) ?_
    exact fn_iret hx hb hr hlocks hAe hK hP hD hS (by rw [hJ, lowB_end (by omega)]) d_S_lowestOne_25
  · refine lv_lload_n hx hb d_S_lowestOne_8 rfl (lv_at hl 1 rfl) ?_
    refine lv_iload_n hx hb d_S_lowestOne_9 rfl (lv_at hl 0 rfl) ?_
    refine lv_lushr hx hb d_S_lowestOne_10 rfl ?_
    refine lv_lconst (v := 1) hx hb d_S_lowestOne_11 (by decide) ?_
    refine lv_land hx hb d_S_lowestOne_12 ?_
    refine lv_lconst (v := 0) hx hb d_S_lowestOne_13 (by decide) ?_
    refine W.lcmp hx hb d_S_lowestOne_14 ?_
    refine l_if_ne (tgt := 24) hx hb d_S_lowestOne_15 (by decide) (fun c_15 => ?_) (fun c_15 => ?_)
    · refine lv_iload_n hx hb d_S_lowestOne_24 rfl (lv_at hl 0 rfl) ?_
      exact fn_iret hx hb hr hlocks hAe hK hP hD hS (by rw [hJ, lowB_hit (by omega) c_15]) d_S_lowestOne_25
    · refine lv_iinc (v := nI (i + 1)) (lv' := [(2, .int (nI (i + 1))), (0, .long x)]) hx hb d_S_lowestOne_18 hl (k := 0) rfl (by rw [← nI_1]; rfl) (by decide) rfl (fun ls hl => ?_)
      refine lv_goto (tgt := 2) hx hb d_S_lowestOne_21 (by decide) ?_
      exact ih _ _ _ (by omega) ⟨hP, hD, hS, lv_sub hl [0, 1] rfl, by rw [hJ, lowB_go (by omega) c_15]⟩
set_option maxHeartbeats 4000000 in
set_option maxRecDepth 100000 in
theorem c_S_lowest (l : Launch) (D : va_G) (hs hw : Nat) (cL : ClassId) (w : Nat → Int64) (r : Nat) (h1 : r + 1 ≤ 260) : Fn l y_S_lowest (wk y_S_lowest b_S_lowest 5 (some .int)) rm_S_lowest D cls [(cL, .long)] [.ref hs, .int (nI r)] (setsW hs hw cL w) XT (some (.int (nI (pLow w r)))) (setsW hs hw cL w) := by
  refine Fn.of (by decide) rfl (Nat.le_of_ble_eq_true rfl) ?_
  intro p e s m below meth c A ls hx hb hml hr hts0 hown hlocks hnm hP hK hD hS hA hAe hX hl
  have hts : ∀ w ∈ lw_ok, w.before _ s = true := fun w h => hts0 w (List.mem_cons_of_mem _ h)
  have hown : s.vm.findClass R_S = some m.cls := hown
  have hP : va_P D cls (setsW hs hw cL w) s.heap := hP
  have hl : lv_has ls 5 [(0, .ref hs), (1, .int (nI r))] := hl
  refine lv_iconst (v := nI 0) hx hb d_S_lowest_0 (by decide) ?_
  refine lv_istore_n (lv' := [(2, .int (nI 0)), (0, .ref hs), (1, .int (nI r))]) hx hb d_S_lowest_1 rfl hl (by decide) rfl (fun ls hl => ?_)
  refine w_loop 2 [] (16) (fun i H locs ls => va_P D cls (setsW hs hw cL w) H ∧ va_D A (setsW hs hw cL w) ∧ va_S A s.heap H locs ∧ lv_has ls 5 [(2, .int (nI i)), (0, .ref hs), (1, .int (nI r))] ∧ pLow w r = lowW w r (16 - i) i) ?_ 0 (Nat.zero_le _) _ _ ls ⟨hP, hD, hS, lv_sub hl [0, 1, 2] rfl, rfl⟩
  intro i hi ih H locs ls ⟨hP, hD, hS, hl, hJ⟩
  refine lv_iload_n hx hb d_S_lowest_2 rfl (lv_at hl 0 rfl) ?_
  refine lv_bipush (v := nI 16) hx hb d_S_lowest_3 (by decide) ?_
  refine z_icmp_ge (tgt := 42) hx hb (nI_toInt (by omega)) (nI_toInt (by omega)) d_S_lowest_5 (by decide) (fun c_5 => ?_) (fun c_5 => ?_)
  · refine lv_iconst (v := nI 0) hx hb d_S_lowest_42 (by decide) ?_
    exact fn_iret hx hb hr hlocks hAe hK hP hD hS (by rw [hJ, lowW_end (by omega)]) d_S_lowest_43
  · refine lv_aload_n hx hb d_S_lowest_8 rfl (lv_at hl 1 rfl) ?_
    refine va_get (D := D) (ci := 1) (v := .ref hw) (C := R_S) (T := F_S) (N := 1) hx hb hts in_S hown hK hP 0 rfl rfl 0 (by decide) (hts _ wd_32) (fun _ h9 => h9) rfl d_S_lowest_9 ?_
    refine lv_iload_n hx hb d_S_lowest_12 rfl (lv_at hl 2 rfl) ?_
    refine lv_bipush (v := nI 16) hx hb d_S_lowest_13 (by decide) ?_
    refine n_mul hx hb d_S_lowest_15 ?_
    refine lv_iload_n hx hb d_S_lowest_16 rfl (lv_at hl 0 rfl) ?_
    refine n_add hx hb d_S_lowest_17 ?_
    refine n_lald hx hb hK hP 1 0 rfl rfl (i := (r * 16) + i) (by omega) (by omega) d_S_lowest_18 ?_
    refine lv_lstore_n (lv' := [(3, .long (w ((r * 16) + i))), (2, .int (nI i)), (0, .ref hs), (1, .int (nI r))]) hx hb d_S_lowest_19 rfl hl (by decide) rfl (fun ls hl => ?_)
    refine lv_lload_n hx hb d_S_lowest_20 rfl (lv_at hl 0 rfl) ?_
    refine lv_lconst (v := 0) hx hb d_S_lowest_21 (by decide) ?_
    refine W.lcmp hx hb d_S_lowest_22 ?_
    refine l_if_eq (tgt := 36) hx hb d_S_lowest_23 (by decide) (fun c_23 => ?_) (fun c_23 => ?_)
    · refine lv_iinc (v := nI (i + 1)) (lv' := [(2, .int (nI (i + 1))), (3, .long (w ((r * 16) + i))), (0, .ref hs), (1, .int (nI r))]) hx hb d_S_lowest_36 hl (k := 1) rfl (by rw [← nI_1]; rfl) (by decide) rfl (fun ls hl => ?_)
      refine lv_goto (tgt := 2) hx hb d_S_lowest_39 (by decide) ?_
      exact ih _ _ _ (by omega) ⟨hP, hD, hS, lv_sub hl [0, 2, 3] rfl, by rw [hJ, lowW_go (by omega) c_23]⟩
    · refine lv_iload_n hx hb d_S_lowest_26 rfl (lv_at hl 1 rfl) ?_
      refine lv_bipush (v := nI 64) hx hb d_S_lowest_27 (by decide) ?_
      refine n_mul hx hb d_S_lowest_29 ?_
      refine lv_lload_n hx hb d_S_lowest_30 rfl (lv_at hl 0 rfl) ?_
      refine fn_S (ws' := (setsW hs hw cL w)) (w1 := (nilW)) (wc := (nilW)) (wr := [(hs, .inr (1, [.ref hw])), (hw, .inl (cL, 4160, .inr (.inl w)))]) ⟨hx, hb, hml, hown, hts⟩ (c_S_lowestOne l D (w ((r * 16) + i))) ⟨callB_of 1 hts (gW wd_445) rfl rfl rfl (hts _ wd_3) (hts _ wd_443) hd_S_lowestOne ⟨Nat.le_of_ble_eq_true rfl, Nat.le_of_ble_eq_true rfl⟩, hts _ wd_444⟩ XT_ok (fun _ _ _ => trivial) hK hP hD hS hA [] [] [0, 1] [0, 1] rfl rfl rfl rfl rfl (by decide) rfl rfl rfl hl.1 rfl (Nat.le_of_ble_eq_true rfl) d_S_lowest_31 ⟨Nat.zero_le _, Nat.zero_le _⟩ (st1 := [.int (nI (lowB (w ((r * 16) + i)) 63 0)), .int (nI (i * 64))]) rfl (fun H locs hP hD hS => ?_)
      refine n_add hx hb d_S_lowest_34 ?_
      exact fn_iret hx hb hr hlocks hAe hK hP hD hS (by rw [hJ, lowW_hit (by omega) c_23]) d_S_lowest_35
end
