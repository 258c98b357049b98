/-! the law's helpers: static methods with a table of handlers -/
def Nx (U : State) : Prop := va_Nc X_ISE X_IAE U ∧ va_Nc X_ISE X_NSE U ∧ va_Nc X_UOE X_NSE U
def Xh (n0 t0 : Nat) : State → Prop := fun U => Zt n0 t0 U ∧ Ze n0 U ∧ Nx U
theorem Xh_ok {n0 t0 : Nat} : Xok (Xh n0 t0) := fun u U hvm hh h => ⟨Zt_ok u U hvm hh h.1, Ze_ok u U hvm hh h.2.1, h.2.2.1.moved (alike_eq hvm), h.2.2.2.1.moved (alike_eq hvm), h.2.2.2.2.moved (alike_eq hvm)⟩
theorem Xh_kept {n0 t0 : Nat} {s : State} {A : Nat → Prop} {H : Heap} {locs : List Loc} (h : Xh n0 t0 s) (hS : va_S A s.heap H locs) (hAn : ∀ q, A q → n0 ≤ q) : ∀ U : State, U.heap = H → s.WarmedH U.vm → Xh n0 t0 U := fun U hU hW =>
  ⟨Zt_kept h.1 hS hAn U hU hW, Ze_kept h.2.1 hS hAn U hU hW, h.2.2.1.moved hW.alike, h.2.2.2.1.moved hW.alike, h.2.2.2.2.moved hW.alike⟩
theorem cast_IAE {s : State} {args : Array Value} (h : Bw s) : (Cond.castable X_IAE X_IAE).before args s = true := Bw_use h _ (List.mem_of_getElem? (i := 0) rfl)
theorem cast_ISE {s : State} {args : Array Value} (h : Bw s) : (Cond.castable X_ISE X_ISE).before args s = true := Bw_use h _ (List.mem_of_getElem? (i := 1) rfl)
theorem cast_NSE {s : State} {args : Array Value} (h : Bw s) : (Cond.castable X_NSE X_NSE).before args s = true := Bw_use h _ (List.mem_of_getElem? (i := 2) rfl)
theorem cast_UOE {s : State} {args : Array Value} (h : Bw s) : (Cond.castable X_UOE X_UOE).before args s = true := Bw_use h _ (List.mem_of_getElem? (i := 3) rfl)
abbrev wkW (y : MethodName) (b : ByteArray) (n : Nat) (r : Option FieldType) (hh : List (Nat × Nat × Nat × Nat)) : List Cond := Cond.codeWith y b n r hh :: lw_ok
theorem gWW {y : MethodName} {b : ByteArray} {n : Nat} {r : Option FieldType} {hh : List (Nat × Nat × Nat × Nat)} (h : Cond.codeWith y b n r hh ∈ lw_ok) : GoodIn lw_ok (wkW y b n r hh) := fun w hw => (List.mem_cons.mp hw).elim (fun e => by rw [e]; exact lw_good _ h) (fun h => lw_good w h)
abbrev hW (ad : Nat → Nat) (cL cI : ClassId) (nv nb nt nf na lv nm : Nat) (vw vp tw ab am : Nat → Nat) (w : Nat → Int64) (o : Nat) (fo : Nat → Int64) : va_W :=
  [(ad 0, .inr (0, [.ref (ad 2), .ref (ad 1), .ref (ad 4), .ref (ad 5), .int (nI nv), .int (nI nb), .ref (ad 6), .int (nI nt), .int (nI nf), .ref (ad 7), .int (nI na), .int (nI lv), .ref (ad 8), .int (nI nm)])),
   (ad 1, .inr (2, [.ref (ad 2)])), (ad 2, .inr (1, [.ref (ad 3)])), (ad 3, .inl (cL, 4160, .inr (.inl w))),
   (ad 4, .inl (cI, 6, .inl (fun j => nI (vw j)))), (ad 5, .inl (cI, 6, .inl (fun j => nI (vp j)))), (ad 6, .inl (cI, 50, .inl (fun j => nI (tw j)))), (ad 7, .inl (cI, 6, .inl (fun j => nI (ab j)))), (ad 8, .inl (cI, 8, .inl (fun j => nI (am j)))),
   (o, .inl (cL, 1, .inr (.inl fo)))]
theorem Xh_A {n0 t0 q o : Nat} {ad : Nat → Nat} {cL cI : ClassId} {nv nb nt nf na lv nm : Nat} {vw vp tw ab am : Nat → Nat} {w fo : Nat → Int64} {s : State} (h : Xh n0 t0 s) (u : ∀ i, i < 9 → n0 ≤ ad i) (uo : n0 ≤ o) (hq : va_A (hW ad cL cI nv nb nt nf na lv nm vw vp tw ab am w o fo) s.heap.size q) : n0 ≤ q :=
  va_A_ge h.1.1 (List.forall_mem_cons.mpr ⟨u 0 (by decide), List.forall_mem_cons.mpr ⟨u 1 (by decide), List.forall_mem_cons.mpr ⟨u 2 (by decide), List.forall_mem_cons.mpr ⟨u 3 (by decide), List.forall_mem_cons.mpr ⟨u 4 (by decide), List.forall_mem_cons.mpr ⟨u 5 (by decide), List.forall_mem_cons.mpr ⟨u 6 (by decide), List.forall_mem_cons.mpr ⟨u 7 (by decide), List.forall_mem_cons.mpr ⟨u 8 (by decide), List.forall_mem_cons.mpr ⟨uo, fun _ h => absurd h List.not_mem_nil⟩⟩⟩⟩⟩⟩⟩⟩⟩⟩) hq
def Fh (l : Launch) (y : MethodName) (wd : List Cond) (rm : Room) (D : va_G) (cl : List vw_C) (tys : List (ClassId × FieldType)) (av : List Value) (w0 : va_W) (X : State → Prop) (ans : Option Value) (w1 : va_W) : Prop := ∀ sz : Nat, Met l y wd rm (Fp D cl tys w0 sz av X) (Fq D cl tys w0 w1 sz ans) 1 6 (va_A w0 sz)
theorem Fh.of {l : Launch} {y : MethodName} {wd wd' : List Cond} {rm : Room} {D : va_G} {cl : List vw_C} {tys : List (ClassId × FieldType)} {av : List Value} {w0 w1 : va_W} {X : State → Prop} {ans : Option Value} {cc : ByteArray} {maxL : Nat} {ret : Option FieldType} {hh : List (Nat × Nat × Nat × Nat)}
    (hy : plainName y.cls = true) (hw : wd = Cond.codeWith y cc maxL ret hh :: wd') (hlen : (lg_sl av).length ≤ maxL)
    (body : ∀ (p : Program) (e : Env) (s : State) (m : MethodId) (below : List Frame) (meth : Method) (c : Code) (A : Nat → Prop) (ls : Array Slot), p.tables.exec = Jvm.exec → c.code = cc → c.maxLocals = maxL → meth.sig.returnType = ret → (∀ w ∈ wd, w.before av.toArray s = true) → s.vm.findClass y.cls = some m.cls → meth.locks = false → c.exceptionTable.toList = tableOf hh → va_P D cl w0 s.heap → va_K D cl tys s → va_D A w0 → va_S A s.heap s.heap [] → (∀ q : Nat, s.heap.size ≤ q → A q) → A = va_A w0 s.heap.size → X s → lv_has ls maxL (lv_args 0 av) →
      W p l e rm s m av.toArray below meth c s.heap [] 0 0 (MQ below (Fq D cl tys w0 w1 s.heap.size ans) av.toArray s 1 6 (va_A w0 s.heap.size)) (F0 m 0 ls [])) : Fh l y wd rm D cl tys av w0 X ans w1 := by
  intro sz
  refine va_MetW (cc := cc) (maxL := maxL) (ret := ret) (hh := hh) hy hw ?_
  intro p e s m args below meth c s₁ B hml hv
  obtain ⟨rfl, hsz, hP, hK, hD0, hX⟩ := hv
  subst hsz
  have hl := lv_entry av (n := maxL) hlen
  rw [lg_entry_eq]
  have hT : c.exceptionTable.toList = tableOf hh := vx_table (x := y) B (atoms_spec (ws := wd) B.pre _ (by rw [hw]; exact List.mem_cons_self))
  exact body p e s m below meth c _ _ B.exec B.bytes hml B.returns (atoms_spec (ws := wd) B.pre) (findClass_of_methodNamed B.named) B.notSynchronized hT hP hK hD0.self va_S.rf (fun q h => Or.inr h) rfl hX hl
section FH
variable {p : Program} {l : Launch} {e : Env} {R : Room} {s : State} {m : MethodId} {args : Array Value} {below : List Frame} {meth : Method} {c : Code} {H : Heap} {locs : List Loc} {cells slots : Nat} {Q : State → Prop}
variable {cc : ByteArray} {pc : Nat} {ls : Array Slot} {rest : List Value} {D : va_G} {cl : List vw_C} {A : Nat → Prop} {a : Nat} {tys : List (ClassId × FieldType)} {ws w0 w1 : va_W} {H0 : Heap} {ans : Option Value}
theorem fh_iret (hx : p.tables.exec = Jvm.exec) (hb : c.code = cc) (hr : meth.sig.returnType = some .int) (hlocks : meth.locks = false) (hAe : A = va_A w0 s.heap.size) (hK : va_K D cl tys s) (hP : va_P D cl w1 H) (hD : va_D A w1) (hS : va_S A s.heap H locs) {v v' : Int32} (hv : v = v') (hc : cells ≤ 1) (hs : slots ≤ 6) (hdg : decode cc pc = .ok (.ireturn, 1)) : W p l e R s m args below meth c H locs cells slots (MQ below (Fq D cl tys w0 w1 s.heap.size (some (.int v'))) args s 1 6 (va_A w0 s.heap.size)) (F0 m pc ls [.int v]) := by
  subst hAe; subst hv
  refine W.widen (k := 1) (n := 6) hc hs ?_
  exact W.iret hx hb hr (fun t ht hW => ⟨rfl, by rw [ht]; exact hP, va_K.moved hW.alike hK, hD, hS.F ht⟩) hS.2.2 hdg hlocks
variable {st0 : List Value} {tysc : List (ClassId × FieldType)} {wc wr ws' : va_W} {X : State → Prop}
variable {y : MethodName} {bytes : ByteArray} {maxL nL n index : Nat} {ret : Option FieldType} {hh : List (Nat × Nat × Nat × Nat)} {wd : List Cond} {rm : Room} {Ts : List Cond} {own : String} {As : List Value}
theorem hcw (n : Nat) (hts : ∀ w ∈ lw_ok, w.before args s = true) (hc : Cond.codeWith y bytes maxL ret hh ∈ lw_ok) (hini : (Cond.initialized y.cls).before args s = true) (hl : (Cond.methodLink own index y).before args s = true) (hst : (Cond.static y).before args s = true)
    (hd : y.cls ≠ "java/lang/invoke/MethodHandle" ∧ y.cls ≠ "java/lang/invoke/VarHandle" ∧ (parseMethodDescriptor y.desc).map (fun d => d.parameters.length) = some n) (hrc : rm.cells = 1) (hrs : rm.slots = 6) (hR : rm.frames + 1 ≤ R.frames ∧ 8 + (maxL + 11) + rm.locals ≤ R.locals) : vx_CSW R s args own index y bytes maxL ret hh (wkW y bytes maxL ret hh) rm 1 6 n := by
  refine ⟨⟨hrc, hrs, hR.1, hR.2, pay_in hts (gWW hc), List.mem_cons_self⟩, hts _ hc, hini, ⟨hd.1, hd.2.1⟩, fun sig h => ?_, hl, hst⟩
  have h2 := hd.2.2
  rw [h] at h2
  exact (Option.some.inj h2).symm
theorem fh_S (SS : CallFix p m c cc nL s args Ts own) (h : Fh l y wd rm D cl tysc As wc X ans w1) (cw : vx_CSW R s args own index y bytes maxL ret hh wd rm 1 6 n) (hX : Xok X) (hXs : ∀ U : State, U.heap = H → s.WarmedH U.vm → X U)
    (hK : va_K D cl tys s) (hP : va_P D cl ws H) (hD : va_D A ws) (hS : va_S A H0 H locs) (hA : ∀ q : Nat, H0.size ≤ q → A q)
    (tcs isC isR is2 : List Nat) (hKc : tcs.filterMap (fun i => tys[i]?) = tysc) (hnC : va_nd isC = true) (hC : isC.map (fun i => ws[i]?) = wc.map some) (hR : isR.map (fun i => ws[i]?) = wr.map some) (hn : va_nd isR = true) (hdis : ∀ i ∈ isR, i ∉ isC) (hn2 : va_nd is2 = true) (h2 : is2.map (fun i => (wr ++ w1)[i]?) = ws'.map some)
    (hlen : As.length = n) (hsize : ls.size = nL) (hstack : st0 = As.reverse ++ rest) (hW : (rest.map fun v => v.category).sum ≤ 8) (hdg : decode cc pc = .ok (.invokestatic index, 3)) (hf : cells + 1 ≤ R.cells ∧ slots + 6 ≤ R.slots)
    {st1 : List Value} (hst : ans.toList ++ rest = st1) (kk : ∀ (H1 : Heap) (locs1 : List Loc), va_P D cl ws' H1 → va_D A ws' → va_S A H0 H1 locs1 → W p l e R s m args below meth c H1 locs1 (cells + 1) (slots + 6) Q (F0 m (pc + 3) ls st1)) : W p l e R s m args below meth c H locs cells slots Q (F0 m pc ls st0) := by
  have hpre := fn_pre (av := As) hX hK hKc hP hD isC hnC hC hXs
  have hr := vx_runSW (As := As) (rest := rest) (H := H) (locs := locs) (cells := cells) (slots := slots) (meth := meth) (below := below) (e := e) (g := F0 m pc ls st0) SS (h H.size) cw hpre rfl hlen hsize hstack (lv_room hW) hdg hf
  intro T hT X'
  obtain ⟨v, st₀, t, T', L, h0, X', hL, e1, e2, ⟨hv, hP1, hK1, hD1, hz, hk⟩, st⟩ := hr T hT X'
  cases hv
  subst hst
  rw [h0] at hz hk
  rw [← e1] at hz hk hP1
  have hFc := va_free (wc := wc) hD hS hA isC hC
  obtain ⟨hP2, hD2⟩ := va_join (wr := wr) (w1 := w1) hP hD isC isR hC hR hn hdis hk hFc hP1 hD1
  have hP3 : va_P D cl ws' T'.heap := by
    intro k q hq
    have h1 : (is2.map (fun i => (wr ++ w1)[i]?))[k]? = some (some q) := by rw [h2, List.getElem?_map, hq]; rfl
    rw [List.getElem?_map] at h1
    cases hi : is2[k]? with
    | none => rw [hi] at h1; cases h1
    | some i => rw [hi] at h1; exact hP2 i q (Option.some.inj h1)
  obtain ⟨t2, a1, b1⟩ := kk T'.heap (locs ++ L) hP3 (hD2.sub is2 hn2 h2)
    ⟨Nat.le_trans hS.1 hz, fun q h1 h2 => by rw [hk q (Nat.lt_of_lt_of_le h1 hS.1) (fun z => h2 (hFc q z))]; exact hS.2.1 q h1 h2, fun q hq => by
      rcases List.mem_append.mp hq with h | h
      · exact hS.2.2 q h
      · exact hFc _ (hL q h)⟩ T' rfl X'
  exact ⟨t2, st t2 a1, b1⟩
end FH
