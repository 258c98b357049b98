/-! a method that throws a new exception; a call that throws -/
abbrev X_IAE : String := "java/lang/IllegalArgumentException"
abbrev X_ISE : String := "java/lang/IllegalStateException"
abbrev X_NSE : String := "java/util/NoSuchElementException"
abbrev X_UOE : String := "java/lang/UnsupportedOperationException"
abbrev X_up : List String := ["java/lang/RuntimeException", "java/lang/Exception"]
def lw_bad : List Cond := [.castable X_IAE X_IAE, .castable X_ISE X_ISE, .castable X_NSE X_NSE, .castable X_UOE X_UOE,
  .declares ⟨"java/lang/RuntimeException", "<init>", "()V"⟩, .declares ⟨"java/lang/RuntimeException", "<init>", "(Ljava/lang/String;)V"⟩, .declares ⟨"java/lang/Exception", "<init>", "()V"⟩, .declares ⟨"java/lang/Exception", "<init>", "(Ljava/lang/String;)V"⟩, .declares ⟨"java/lang/Throwable", "<init>", "()V"⟩, .declares ⟨"java/lang/Throwable", "<init>", "(Ljava/lang/String;)V"⟩]
def Bw (U : State) : Prop := ∀ w ∈ lw_bad, va_Nw w U
theorem bad_tab : ∀ w ∈ lw_bad, w.onTables = true := by decide +kernel
theorem Bw_same {u U : State} (h : u.vm = U.vm) (hb : Bw u) : Bw U := fun w hw => va_Nw.same (bad_tab w hw) h (hb w hw)
theorem Bw_warm {s U : State} (hW : s.WarmedH U.vm) (h : Bw s) : Bw U := by
  intro w hw
  have hz := h w hw
  simp only [lw_bad, List.mem_cons, List.not_mem_nil, or_false] at hw
  rcases hw with rfl | rfl | rfl | rfl | rfl | rfl | rfl | rfl | rfl | rfl
  · exact va_Nw.warmC hW hz
  · exact va_Nw.warmC hW hz
  · exact va_Nw.warmC hW hz
  · exact va_Nw.warmC hW hz
  · exact va_Nw.warmD hW hz
  · exact va_Nw.warmD hW hz
  · exact va_Nw.warmD hW hz
  · exact va_Nw.warmD hW hz
  · exact va_Nw.warmD hW hz
  · exact va_Nw.warmD hW hz
theorem Bw_use {U : State} {args : Array Value} (h : Bw U) : ∀ w ∈ lw_bad, w.before args U = true := fun w hw => va_Nw.use (bad_tab w hw) (h w hw)
def Ze (n0 : Nat) : State → Prop := fun U => n0 ≤ U.heap.size ∧ vx_Zq Bundle.tN "UNASSIGNED_STACK" Bundle.steD (fun q => n0 ≤ q) U U.heap ∧ vx_Zq Bundle.tN "SUPPRESSED_SENTINEL" Bundle.listD (fun q => n0 ≤ q) U U.heap ∧ Bw U
theorem alike_eq {u U : State} (h : u.vm = U.vm) : u.vm.Alike U.vm := by rw [h]; exact Vm.Alike.refl _
theorem Ze_ok {n0 : Nat} : Xok (Ze n0) := fun u U hvm hh h => ⟨by rw [hh]; exact h.1, by rw [hh]; exact h.2.1.moved (alike_eq hvm), by rw [hh]; exact h.2.2.1.moved (alike_eq hvm), Bw_same hvm h.2.2.2⟩
theorem Ze_kept {n0 : Nat} {s : State} {A : Nat → Prop} {H : Heap} {locs : List Loc} (h : Ze n0 s) (hS : va_S A s.heap H locs) (hAn : ∀ q, A q → n0 ≤ q) : ∀ U : State, U.heap = H → s.WarmedH U.vm → Ze n0 U := by
  intro U hU hW
  have hk : ∀ a : Nat, a < s.heap.size → ¬ n0 ≤ a → H[a]? = s.heap[a]? := fun a h1 h2 => hS.2.1 a h1 (fun z => h2 (hAn a z))
  refine ⟨by rw [hU]; exact Nat.le_trans h.1 hS.1, ?_, ?_, Bw_warm hW h.2.2.2⟩
  · rw [hU]; exact (h.2.1.moved hW.alike).kept hk
  · rw [hU]; exact (h.2.2.1.moved hW.alike).kept hk
theorem Ze_AB {n0 q : Nat} {ad : Nat → Nat} {cL cI : ClassId} {nv nb nt nf na lv nm : Nat} {vw vp tw ab am : Nat → Nat} {w : Nat → Int64} {s : State} (h : Ze n0 s) (u : ∀ i, i < 9 → n0 ≤ ad i) (hq : va_A (bsW ad cL cI nv nb nt nf na lv nm vw vp tw ab am w) s.heap.size q) : n0 ≤ q :=
  va_A_ge h.1 (List.forall_mem_cons.mpr ⟨u 0 (by decide), List.forall_mem_cons.mpr ⟨u 1 (by decide), List.forall_mem_cons.mpr ⟨u 2 (by decide), List.forall_mem_cons.mpr ⟨u 3 (by decide), List.forall_mem_cons.mpr ⟨u 4 (by decide), List.forall_mem_cons.mpr ⟨u 5 (by decide), List.forall_mem_cons.mpr ⟨u 6 (by decide), List.forall_mem_cons.mpr ⟨u 7 (by decide), List.forall_mem_cons.mpr ⟨u 8 (by decide), fun _ h => absurd h List.not_mem_nil⟩⟩⟩⟩⟩⟩⟩⟩⟩) hq
theorem at_of {args : Array Value} {s : State} {L : List Cond} (h1 : ∀ w ∈ L.filter goodWord, w ∈ lw_tbl) (h2 : ∀ w ∈ L.filter (fun w => !goodWord w), w ∈ lw_bad) (hts : ∀ w ∈ lw_ok, w.before args s = true) (hB : Bw s) : ∀ w ∈ L, w.before args s = true :=
  vx_hat (fun w hw => hts w (List.mem_filter.mpr ⟨h1 w hw, (List.mem_filter.mp hw).2⟩)) h2 (Bw_use hB)
def XE (D : va_G) (cl : List vw_C) (tys : List (ClassId × FieldType)) (w0 w1 : va_W) (sz : Nat) (E : String) : String → State → State → Prop := fun E' st t => E' = E ∧ va_P D cl w1 t.heap ∧ va_K D cl tys t ∧ va_D (va_A w0 sz) w1 ∧ va_F (va_A w0 sz) st t
abbrev noQ : Array Value → State → Outcome → State → Prop := fun _ _ _ _ => False
def Ft (l : Launch) (y : MethodName) (wd : List Cond) (rm : Room) (D : va_G) (cl : List vw_C) (tys : List (ClassId × FieldType)) (av : List Value) (w0 : va_W) (X : State → Prop) (E : String) (w1 : va_W) : Prop :=
  ∀ sz : Nat, vx_Met l y wd rm (Fp D cl tys w0 sz av X) noQ (XE D cl tys w0 w1 sz E) 1 6 (va_A w0 sz)
theorem Ft.of {l : Launch} {y : MethodName} {wd wd' : List Cond} {rm : Room} {D : va_G} {cl : List vw_C} {tys : List (ClassId × FieldType)} {av : List Value} {w0 w1 : va_W} {X : State → Prop} {E : String} {cc : ByteArray} {maxL : Nat} {ret : Option FieldType}
    (hy : plainName y.cls = true) (hw : wd = Cond.code y cc maxL ret :: wd') (hlen : (lg_sl av).length ≤ maxL)
    (body : ∀ (p : Program) (e : Env) (s : State) (m : MethodId) (below : List Frame) (meth : Method) (c : Code) (A : Nat → Prop) (ls : Array Slot), p.tables.exec = Jvm.exec → c.code = cc → c.maxLocals = maxL → meth.sig.returnType = ret → (∀ w ∈ wd, w.before av.toArray s = true) → s.vm.findClass y.cls = some m.cls → meth.locks = false → (∀ x ∈ c.exceptionTable.toList, False) → va_P D cl w0 s.heap → va_K D cl tys s → va_D A w0 → va_S A s.heap s.heap [] → (∀ q : Nat, s.heap.size ≤ q → A q) → A = va_A w0 s.heap.size → X s → lv_has ls maxL (lv_args 0 av) →
      W p l e rm s m av.toArray below meth c s.heap [] 0 0 (vx_MQ below noQ (XE D cl tys w0 w1 s.heap.size E) av.toArray s 1 6 (va_A w0 s.heap.size)) (F0 m 0 ls [])) : Ft l y wd rm D cl tys av w0 X E w1 := by
  intro sz
  refine vx_ofW (cc := cc) (maxL := maxL) (ret := ret) hy hw ?_
  intro p e s m args below meth c s₁ B hml hnone hv
  obtain ⟨rfl, hsz, hP, hK, hD0, hX⟩ := hv
  subst hsz
  have hl := lv_entry av (n := maxL) hlen
  rw [lg_entry_eq]
  exact body p e s m below meth c _ _ B.exec B.bytes hml B.returns (atoms_spec (ws := wd) B.pre) (findClass_of_methodNamed B.named) B.notSynchronized hnone hP hK hD0.self va_S.rf (fun q h => Or.inr h) rfl hX hl
section TH
variable {p : Program} {l : Launch} {e : Env} {R : Room} {s : State} {m : MethodId} {args : Array Value} {below : List Frame} {meth : Method} {c : Code} {H : Heap} {locs : List Loc}
variable {cc : ByteArray} {pc : Nat} {ls : Array Slot} {D : va_G} {cl : List vw_C} {A : Nat → Prop} {tys : List (ClassId × FieldType)} {w0 w1 : va_W}
theorem ft_throw {n0 : Nat} {own E : String} {names : List String} {ia ic : Nat} (hx : p.tables.exec = Jvm.exec) (hb : c.code = cc) (hst : l.stackTraces = false) (hlocks : meth.locks = false) (hnone : ∀ x ∈ c.exceptionTable.toList, False) (hml : ls.size = c.maxLocals)
    (hown : s.vm.findClass own = some m.cls) (hE : Bundle.fit E = true) (hnm : ∀ n ∈ names, Bundle.fit n = true) (hk : (Cond.classLink own ia E).before args s = true) (hini : (Cond.initialized E).before args s = true)
    (hat : ∀ w ∈ vx_at0 own ic E names, w.before args s = true) (hgood : ∀ w ∈ Cond.classLink own ia E :: Cond.initialized E :: vx_at0 own ic E names, vx_ot w = true)
    (hX : Ze n0 s) (hAn : ∀ q, A q → n0 ≤ q) (hAe : A = va_A w0 s.heap.size) (hK : va_K D cl tys s) (hP : va_P D cl w1 H) (hD : va_D A w1) (hS : va_S A s.heap H locs)
    (hRf : names.length + 3 < R.frames) (hRl : 13 * (names.length + 1) + 42 ≤ R.locals) (hRc : 1 ≤ R.cells) (hRs : 6 ≤ R.slots)
    (d0 : decode cc pc = .ok (.new ia, 3)) (d3 : decode cc (pc + 3) = .ok (.dup, 1)) (d4 : decode cc (pc + 4) = .ok (.invokespecial ic, 3)) (d7 : decode cc (pc + 7) = .ok (.athrow, 1)) :
    W p l e R s m args below meth c H locs 0 0 (vx_MQ below noQ (XE D cl tys w0 w1 s.heap.size E) args s 1 6 (va_A w0 s.heap.size)) (F0 m pc ls []) := by
  subst hAe
  refine vx_throw0 (A := va_A w0 s.heap.size) hx hb hst hown hE hnm hk hini hat hgood (hX.2.1.narrow hAn) (hX.2.2.1.narrow hAn) hS hml d0 d3 d4 d7 (fun x hx => (hnone x hx).elim) hRf (by simpa using hRl) (by simpa using hRc) (by simpa using hRs) hlocks (fun t hvm hz hkp => ⟨rfl, ?_, va_K.moved hvm hK, hD, ?_⟩) hS.2.2 (Nat.le_refl _) (Nat.le_refl _)
  · exact hP.kept (fun k q hk => hkp _ (hP k q hk).lt)
  · exact ⟨Nat.le_trans hS.1 hz, fun q h1 h2 => by rw [hkp q (Nat.lt_of_lt_of_le h1 hS.1)]; exact hS.2.1 q h1 h2⟩
variable {cells slots : Nat} {Q : State → Prop} {ws : va_W} {H0 : Heap} {rest st0 : List Value} {tysc : List (ClassId × FieldType)} {wc wr ws' : va_W} {X : State → Prop}
variable {y : MethodName} {bytes : ByteArray} {maxL nL n index : Nat} {ret : Option FieldType} {wd : List Cond} {rm : Room} {Ts : List Cond} {own C E : String} {b : Addr} {As : List Value}
theorem ft_V (SS : CallFix p m c cc nL s args Ts own) (h : Ft l y wd rm D cl tysc (.ref b :: As) wc X E w1) (cw : CallW R s args own C index y bytes maxL ret wd rm 1 6 n) (hX : Xok X) (hXs : ∀ U : State, U.heap = H → s.WarmedH U.vm → X U)
    (hK : va_K D cl tys s) (hP : va_P D cl ws H) (hD : va_D A ws) (hS : va_S A H0 H locs) (hA : ∀ q : Nat, H0.size ≤ q → A q) (q0 ci : Nat) {q : vw_C} {fs : List Value} (hci : cl[ci]? = some q) (hqC : q.1 = C) (he : ws[q0]? = some (b, .inr (ci, fs)))
    (tcs isC isR is2 : List Nat) (hKc : tcs.filterMap (fun i => tys[i]?) = tysc) (hnC : va_nd isC = true) (hC : isC.map (fun i => ws[i]?) = wc.map some) (hR : isR.map (fun i => ws[i]?) = wr.map some) (hn : va_nd isR = true) (hdis : ∀ i ∈ isR, i ∉ isC) (hn2 : va_nd is2 = true) (h2 : is2.map (fun i => (wr ++ w1)[i]?) = ws'.map some)
    (hlen : As.length = n) (hsize : ls.size = nL) (hstack : st0 = As.reverse ++ .ref b :: rest) (hW : (rest.map fun v => v.category).sum ≤ 8) (hdg : decode cc pc = .ok (.invokevirtual index, 3)) (hf : cells + 1 ≤ R.cells ∧ slots + 6 ≤ R.slots)
    (kk : ∀ (x : Addr) (ce : Cell) (H1 : Heap) (locs1 : List Loc), va_P D cl ws' H1 → va_D A ws' → va_S A H0 H1 locs1 → H1[x]? = some ce → ce.vm = .none → s.vm.findClass E = some ce.cls → vx_W p l e R s m args below meth c H1 locs1 (cells + 1) (slots + 6) Q (F0 m pc ls rest) x) : W p l e R s m args below meth c H locs cells slots Q (F0 m pc ls st0) := by
  have hpre := fn_pre (av := .ref b :: As) hX hK hKc hP hD isC hnC hC hXs
  have hr := vx_runV (As := As) (rest := rest) (H := H) (locs := locs) (cells := cells) (slots := slots) (meth := meth) (below := below) (e := e) (g := F0 m pc ls st0) SS (h H.size) cw ⟨hpre.1, by subst hqC; exact va_recv hK hP hci he, hpre.2⟩ rfl hlen hsize hstack (lv_room hW) hdg hf
  intro T hT X'
  rcases hr T hT X' with ⟨v, st₀, t, T', L, h0, X', hL, e1, e2, hfalse, st⟩ | ⟨q9, st₀, t, T', L, E', ce, h0, X', hL, e1, e2, ⟨rfl, hP1, hK1, hD1, hz, hk⟩, hce, hcv, hcl, st⟩
  · exact hfalse.elim
  · rw [h0] at hz hk
    rw [← e1] at hz hk hP1 hce
    have hFc := va_free (wc := wc) hD hS hA isC hC
    obtain ⟨hP2, hD2⟩ := va_join (wr := wr) (w1 := w1) hP hD isC isR hC hR hn hdis hk hFc hP1 hD1
    have hP3 : va_P D cl ws' T'.heap := by
      intro k q hq
      have h1 : (is2.map (fun i => (wr ++ w1)[i]?))[k]? = some (some q) := by rw [h2, List.getElem?_map, hq]; rfl
      rw [List.getElem?_map] at h1
      cases hi : is2[k]? with
      | none => rw [hi] at h1; cases h1
      | some i => rw [hi] at h1; exact hP2 i q (Option.some.inj h1)
    obtain ⟨t2, a1, b1⟩ := kk q9 ce T'.heap (locs ++ L) hP3 (hD2.sub is2 hn2 h2)
      ⟨Nat.le_trans hS.1 hz, fun q h1 h2 => by rw [hk q (Nat.lt_of_lt_of_le h1 hS.1) (fun z => h2 (hFc q z))]; exact hS.2.1 q h1 h2, fun q hq => by
        rcases List.mem_append.mp hq with h | h
        · exact hS.2.2 q h
        · exact hFc _ (hL q h)⟩ hce hcv hcl T' rfl X'
    exact ⟨t2, st.trans a1, b1⟩
end TH
