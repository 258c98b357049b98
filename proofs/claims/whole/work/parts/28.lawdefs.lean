/-! THE CLAIM OUT OF ONE WALK OF THE LAW'S BODY. Your part is whole_start (and what it stands on); all else here is the same for every law, but numbers. -/
def R_law : String := "BitSolverLaw"
def lw_P (b : Addr) (xs : List Int32) (args : Array Value) (s : State) : Prop := args = #[.ref b] ∧ s.IntsAt b xs ∧ xs.length ≤ 2560 ∧ (Jvm.Cond.and given_1 narrow_1).before args s = true
def lw_Q (_ : Array Value) (s : State) (o : Outcome) (t : State) : Prop := o = .returned (some (.int 1)) ∧ Framed s o t [] 601024 7293034
def lw_Z (below : List Frame) (a : Array Value) (s : State) : State → Prop := fun t => ∃ o, t.status = .running ∧ Ended t below o ∧ lw_Q a s o t
/-- the law's own end, with 1 on the stack, nothing written that was there before, its room as the claim has it -/
theorem lw_ret {p : Program} {l : Launch} {e : Env} {s : State} {m : MethodId} {below : List Frame} {meth : Method} {c : Code} {b : Nat} (hx : p.tables.exec = Jvm.exec) (hb : c.code = code) (hr : meth.sig.returnType = ret) (hlocks : meth.locks = false) {pc : Nat} {H : Heap} {ls : Array Slot} (hdg : decode code pc = .ok (.ireturn, 1)) : W p l e room_1 s m #[Value.ref b] below meth c H [] 601024 7293034 (lw_Z below #[Value.ref b] s) (F0 m pc ls [.int 1]) := by
  intro T hT X
  obtain ⟨fs, hret, hrun, hended, hW, hframe⟩ := X.leave (v := some (.int 1)) (hlocks := hlocks) (fun h => by rw [hr] at h; cases h)
  have hmeth' : T.vm.method? m = some meth := X.method'
  refine ⟨T.setFrames fs, ?_, .returned (some (.int 1)), hrun, hended, rfl, ⟨_, rfl⟩, hW, hframe⟩
  jvm_step X.here [X.here.top, hx, hb, hdg, hmeth', hr, ret, narrow_b1]
  (try refine ⟨rfl, ?_⟩); (try refine ⟨rfl, ?_⟩)
  first | (intro acts; rw [hret _ acts rfl rfl rfl]) | rw [hret _ _ rfl rfl rfl]
  exact Steps.refl _
/-- what holds at the law's entry: the machine, the code, the tables' words (any of lw_tbl by 'hts w (by decide +kernel)'), the script of L ints xs at the cell b, what the Statement gives of the start (any of its parts by flat_of_before) -/
def lw_At (p : Program) (s : State) (m : MethodId) (meth : Method) (c : Code) (b L : Nat) (xs : Nat → Int32) : Prop :=
  p.tables.exec = Jvm.exec ∧ c.code = code ∧ meth.sig.returnType = ret ∧ c.maxLocals = 7 ∧ s.vm.findClass R_law = some m.cls ∧ (∀ w ∈ lw_tbl, w.before #[Value.ref b] s = true) ∧ va_X b L xs s s.heap ∧ b < s.heap.size ∧ meth.locks = false ∧ (Jvm.Cond.and given_1 narrow_1).before #[Value.ref b] s = true
abbrev lW (ad : Nat → Nat) (cL cI : ClassId) (nv nb nt nf na lv nm : Nat) (vw vp tw ab am : Nat → Nat) (w : Nat → Int64) (ma : Nat → Nat) (cZ : ClassId) (th nv' nb' nt' nf' na' lv' nm' : Nat) (vw' tk ta : Nat → Nat) (tb tc : Nat → Int32) (tw' fk fa : Nat → Nat) (fb : Nat → Int32) (od sd aa am' vl : Nat → Nat) (ho : Nat → Bool) (o : Nat) (fo : Nat → Int64) : va_W :=
  [(ad 0, .inr (0, [.ref (ad 2), .ref (ad 1), .ref (ad 4), .ref (ad 5), .int (nI nv), .int (nI nb), .ref (ad 6), .int (nI nt), .int (nI nf), .ref (ad 7), .int (nI na), .int (nI lv), .ref (ad 8), .int (nI nm)])),
   (ad 1, .inr (2, [.ref (ad 2)])), (ad 2, .inr (1, [.ref (ad 3)])), (ad 3, .inl (cL, 4160, .inr (.inl w))),
   (ad 4, .inl (cI, 6, .inl (fun j => nI (vw j)))), (ad 5, .inl (cI, 6, .inl (fun j => nI (vp j)))), (ad 6, .inl (cI, 50, .inl (fun j => nI (tw j)))), (ad 7, .inl (cI, 6, .inl (fun j => nI (ab j)))), (ad 8, .inl (cI, 8, .inl (fun j => nI (am j)))),
   (ma 0, .inr (3, [.int (nI th), .ref (ma 1), .int (nI nv'), .int (nI nb'), .ref (ma 2), .ref (ma 3), .ref (ma 4), .ref (ma 5), .ref (ma 6), .int (nI nt'), .ref (ma 7), .ref (ma 8), .ref (ma 9), .int (nI nf'), .ref (ma 10), .ref (ma 11), .ref (ma 12), .int (nI na'), .int (nI lv'), .ref (ma 13), .int (nI nm'), .ref (ma 14), .ref (ma 15)])),
   (ma 1, .inl (cI, 6, .inl (fun j => nI (vw' j)))), (ma 2, .inl (cI, 50, .inl (fun j => nI (tk j)))), (ma 3, .inl (cI, 50, .inl (fun j => nI (ta j)))), (ma 4, .inl (cI, 50, .inl tb)), (ma 5, .inl (cI, 50, .inl tc)), (ma 6, .inl (cI, 50, .inl (fun j => nI (tw' j)))),
   (ma 7, .inl (cI, 50, .inl (fun j => nI (fk j)))), (ma 8, .inl (cI, 50, .inl (fun j => nI (fa j)))), (ma 9, .inl (cI, 50, .inl fb)), (ma 10, .inl (cI, 100, .inl (fun j => nI (od j)))), (ma 11, .inl (cI, 30, .inl (fun j => nI (sd j)))), (ma 12, .inl (cI, 30, .inl (fun j => nI (aa j)))), (ma 13, .inl (cI, 8, .inl (fun j => nI (am' j)))), (ma 14, .inl (cI, 50, .inl (fun j => nI (vl j)))), (ma 15, .inl (cZ, 50, .inl (fun j => bI (ho j)))),
   (o, .inl (cL, 1, .inr (.inl fo)))]
