abbrev XN : State → Prop := va_Nw (.fieldLinkNest R_B 16 "BitSolver$Circuits" "sets" "LBitSolver$Sets;" "BitSolver")
theorem XN_ok : Xok XN := fun _ _ hvm _ h => va_Nw.same rfl hvm h
abbrev rn_S_init : Room := { frames := 1, cells := 1, slots := 4160, locals := 24 }
abbrev rn_C_init : Room := { frames := 2, cells := 2, slots := 4161, locals := 45 }
abbrev rn_B_init : Room := { frames := 3, cells := 8, slots := 4238, locals := 65 }
set_option maxHeartbeats 4000000 in
set_option maxRecDepth 100000 in
theorem c_S_init (l : Launch) (D : va_G) (h0 sz : Nat) : Met l y_S_init (wk y_S_init b_S_init 2 none) rn_S_init (Fp D cls [] [(h0, .inr (1, [.null]))] sz [.ref h0, .int (nI 260)] XT) (va_Qv (S := Nat × ClassId) (fun _ => True) (fun u t => va_P D cls (setsW h0 u.1 u.2 (fun _ => 0)) t.heap ∧ va_K D cls [(u.2, .long)] t ∧ va_D (va_A [(h0, .inr (1, [.null]))] sz) (setsW h0 u.1 u.2 (fun _ => 0))) (va_A [(h0, .inr (1, [.null]))] sz)) 1 4160 (va_A [(h0, .inr (1, [.null]))] sz) := by
  refine Met.ofW (cc := b_S_init) (maxL := 2) (ret := none) (by decide) rfl ?_
  intro p e s m args below meth c s₁ B hml hv
  obtain ⟨rfl, hsz, hP, hK, hD0, hX⟩ := hv
  have hx := B.exec
  have hb := B.bytes
  have hr := B.returns
  have hts : ∀ w ∈ lw_ok, w.before _ s = true := fun w h => atoms_spec (ws := wk y_S_init b_S_init 2 none) B.pre w (List.mem_cons_of_mem _ h)
  have hown : s.vm.findClass R_S = some m.cls := findClass_of_methodNamed B.named
  have hlocks := B.notSynchronized
  have hin : meth.name = "<init>" := (name_of_methodNamed B.named B.method).1
  subst hsz
  have hD := hD0.self (sz := s.heap.size)
  obtain ⟨A, hAe⟩ : ∃ A : Nat → Prop, A = va_A [(h0, .inr (1, [.null]))] s.heap.size := ⟨_, rfl⟩
  rw [← hAe] at hD
  have hA : ∀ q : Nat, s.heap.size ≤ q → A q := fun q h => by rw [hAe]; exact Or.inr h
  have hS : va_S A s.heap s.heap [] := va_S.rf
  have hP : va_P D cls [(h0, .inr (1, [.null]))] s.heap := hP
  have hl := lv_entry ([.ref h0, .int (nI 260)]) (n := 2) (Nat.le_of_ble_eq_true rfl)
  rw [lg_entry_eq]
  generalize (lg_sl ([.ref h0, .int (nI 260)]) ++ List.replicate (2 - (lg_sl ([.ref h0, .int (nI 260)])).length) Slot.unset).toArray = ls at hl ⊢
  have hl : lv_has ls 2 [(0, .ref h0), (1, .int (nI 260))] := hl
  refine lv_aload_n hx hb d_S_init_0 rfl (lv_at hl 0 rfl) ?_
  refine W.objInit hx hb hown (hts _ wd_31) (hts _ wd_18) (hts _ wd_19) rfl (by rw [hml]; exact hl.1) rfl d_S_init_1 (Nat.le_of_ble_eq_true rfl) (Nat.le_of_ble_eq_true rfl) ?_
  refine W.eq (g2 := F0 m 4 ls []) rfl ?_
  refine lv_aload_n hx hb d_S_init_4 rfl (lv_at hl 0 rfl) ?_
  refine lv_iload_n hx hb d_S_init_5 rfl (lv_at hl 1 rfl) ?_
  refine lv_bipush (v := nI 16) hx hb d_S_init_6 (by decide) ?_
  refine n_mul hx hb d_S_init_8 ?_
  refine va_newa (atype := .long) (ty := .long) (a0 := (4160, .inr (.inl (fun _ => 0)))) hx hb (hts _ wd_36) rfl hK hP hD hS hA (fun cA => rfl) (nI_pos (by decide)) (nI_clamp (n := 260 * 16) (by decide)) (by decide) (Nat.le_of_ble_eq_true rfl) (Nat.le_of_ble_eq_true rfl) d_S_init_9 (fun q cL H hK hP hD hS => ?_)
  have hP : va_P D cls [(h0, .inr (1, [.null])), (q, .inl (cL, 4160, .inr (.inl (fun _ => 0))))] H := hP
  have hD : va_D A [(h0, .inr (1, [.null])), (q, .inl (cL, 4160, .inr (.inl (fun _ => 0))))] := hD
  have hK : va_K D cls [(cL, .long)] s := hK
  refine va_putF (D := D) (ci := 1) (v := .ref q) (ty := .array .long) (C := R_S) (T := F_S) (N := 1) hx hb hts in_S t_S tok_S nm_S hown hK hP hD hS 0 rfl rfl 0 (by decide) (hts _ wd_32) (fun _ h9 => h9) rfl hin rfl (by decide +kernel) rfl rfl (Nat.le_of_ble_eq_true rfl) d_S_init_11 (fun H locs hP hD hS => ?_)
  have hP : va_P D cls (setsW h0 q cL (fun _ => 0)) H := hP
  have hD : va_D A (setsW h0 q cL (fun _ => 0)) := hD
  refine W.widen (k := 1) (n := 4160) (Nat.le_of_ble_eq_true rfl) (Nat.le_of_ble_eq_true rfl) ?_
  subst hAe
  exact W.vret hx hb hr (fun t ht hW => ⟨⟨(q, cL), rfl, trivial, by rw [ht]; exact hP, va_K.moved hW.alike hK, hD⟩, hS.F ht⟩) hS.2.2 d_S_init_14
set_option maxHeartbeats 4000000 in
set_option maxRecDepth 100000 in
theorem c_C_init (l : Launch) (D : va_G) (h0 sz : Nat) : Met l y_C_init (wk y_C_init b_C_init 1 none) rn_C_init (Fp D cls [] [(h0, .inr (2, [.null]))] sz [.ref h0] XT) (va_Qv (S := Nat × Nat × ClassId) (fun _ => True) (fun u t => va_P D cls (circW h0 u.1 u.2.1 u.2.2 (fun _ => 0)) t.heap ∧ va_K D cls [(u.2.2, .long)] t ∧ va_D (va_A [(h0, .inr (2, [.null]))] sz) (circW h0 u.1 u.2.1 u.2.2 (fun _ => 0))) (va_A [(h0, .inr (2, [.null]))] sz)) 2 4161 (va_A [(h0, .inr (2, [.null]))] sz) := by
  refine Met.ofW (cc := b_C_init) (maxL := 1) (ret := none) (by decide) rfl ?_
  intro p e s m args below meth c s₁ B hml hv
  obtain ⟨rfl, hsz, hP, hK, hD0, hX⟩ := hv
  have hx := B.exec
  have hb := B.bytes
  have hr := B.returns
  have hts : ∀ w ∈ lw_ok, w.before _ s = true := fun w h => atoms_spec (ws := wk y_C_init b_C_init 1 none) B.pre w (List.mem_cons_of_mem _ h)
  have hown : s.vm.findClass R_C = some m.cls := findClass_of_methodNamed B.named
  have hlocks := B.notSynchronized
  have hin : meth.name = "<init>" := (name_of_methodNamed B.named B.method).1
  subst hsz
  have hD := hD0.self (sz := s.heap.size)
  obtain ⟨A, hAe⟩ : ∃ A : Nat → Prop, A = va_A [(h0, .inr (2, [.null]))] s.heap.size := ⟨_, rfl⟩
  rw [← hAe] at hD
  have hA : ∀ q : Nat, s.heap.size ≤ q → A q := fun q h => by rw [hAe]; exact Or.inr h
  have hS : va_S A s.heap s.heap [] := va_S.rf
  have hP : va_P D cls [(h0, .inr (2, [.null]))] s.heap := hP
  have hl := lv_entry ([.ref h0]) (n := 1) (Nat.le_of_ble_eq_true rfl)
  rw [lg_entry_eq]
  generalize (lg_sl ([.ref h0]) ++ List.replicate (1 - (lg_sl ([.ref h0])).length) Slot.unset).toArray = ls at hl ⊢
  have hl : lv_has ls 1 [(0, .ref h0)] := hl
  refine lv_aload_n hx hb d_C_init_0 rfl (lv_at hl 0 rfl) ?_
  refine W.objInit hx hb hown (hts _ wd_25) (hts _ wd_18) (hts _ wd_19) rfl (by rw [hml]; exact hl.1) rfl d_C_init_1 (Nat.le_of_ble_eq_true rfl) (Nat.le_of_ble_eq_true rfl) ?_
  refine W.eq (g2 := F0 m 4 ls []) rfl ?_
  refine lv_aload_n hx hb d_C_init_4 rfl (lv_at hl 0 rfl) ?_
  refine va_new (ci := 1) (fs := [.null]) (C := R_S) (T := F_S) (N := 1) hx hb hts in_S t_S tok_S hown (hts _ wd_26) (hts _ wd_27) (hts _ wd_3) hK hP hD hS hA rfl (fun j hj => by rcases (show j = 0 by omega) with rfl; rfl) (Nat.le_of_ble_eq_true rfl) (Nat.le_of_ble_eq_true rfl) d_C_init_5 (fun q1 H hP hD hS => ?_)
  have hP : va_P D cls [(h0, .inr (2, [.null])), (q1, .inr (1, [.null]))] H := hP
  have hD : va_D A [(h0, .inr (2, [.null])), (q1, .inr (1, [.null]))] := hD
  refine lv_dup hx hb d_C_init_8 rfl ?_
  refine lv_sipush (v := nI 260) hx hb d_C_init_9 (by decide) ?_
  have hPc := hP.sub (ws' := [(q1, .inr (1, [.null]))]) [1] rfl
  have hDc := hD.sub (ws' := [(q1, .inr (1, [.null]))]) [1] (by decide) rfl
  have hKc := hK.sub (tys' := []) [] rfl
  have hFc := va_free (wc := [(q1, .inr (1, [.null]))]) hD hS hA [1] rfl
  refine va_callv (va_runI (As := [.int (nI 260)]) (rest := [.ref q1, .ref h0]) ⟨hx, hb, hml, hown, hts⟩ (c_S_init l D q1 H.size) ⟨callB_of 1 hts (gW wd_30) rfl rfl rfl (hts _ wd_3) (hts _ wd_28) hd_S_init ⟨Nat.le_of_ble_eq_true rfl, Nat.le_of_ble_eq_true rfl⟩, rfl, hts _ wd_29⟩ ⟨Fp_blind XT_ok, fun U hU hW => ⟨rfl, by rw [hU], by rw [hU]; exact hPc, va_K.moved hW.alike hKc, hDc.weaken (fun _ _ _ _ => trivial), trivial⟩⟩ rfl rfl hl.1 rfl (lv_room (Nat.le_of_ble_eq_true rfl)) d_C_init_12 ⟨Nat.le_of_ble_eq_true rfl, Nat.le_of_ble_eq_true rfl⟩) hS (fun q _ h => hFc q h) hFc (fun u t H1 locs ht hvm hw hB hz1 hk1 hS => ?_)
  obtain ⟨hw1, cL⟩ := u
  obtain ⟨hP1, hK1, hD1⟩ := hB
  rw [ht] at hP1
  have hK1 := va_K.moved hvm.symm hK1
  obtain ⟨hP, hD⟩ := va_join (wr := [(h0, .inr (2, [.null]))]) (w1 := setsW q1 hw1 cL (fun _ => 0)) hP hD [1] [0] rfl rfl (by decide) (by decide) hk1 hFc hP1 hD1
  have hK := (hK.sub (tys' := []) [] rfl).app hK1
  generalize H1 = H at hP hS ⊢
  have hP : va_P D cls [(h0, .inr (2, [.null])), (q1, .inr (1, [.ref hw1])), (hw1, .inl (cL, 4160, .inr (.inl (fun _ => 0))))] H := hP
  have hD : va_D A [(h0, .inr (2, [.null])), (q1, .inr (1, [.ref hw1])), (hw1, .inl (cL, 4160, .inr (.inl (fun _ => 0))))] := hD
  have hK : va_K D cls [(cL, .long)] s := hK
  refine va_putF (D := D) (ci := 2) (v := .ref q1) (ty := .object "BitSolver$Sets") (C := R_C) (T := F_C) (N := 1) hx hb hts in_C t_C tok_C nm_C hown hK hP hD hS 0 rfl rfl 0 (by decide) (hts _ wd_37) (fun _ h9 => h9) rfl hin rfl (by decide +kernel) rfl rfl (Nat.le_of_ble_eq_true rfl) d_C_init_15 (fun H locs hP hD hS => ?_)
  have hP : va_P D cls (circW h0 q1 hw1 cL (fun _ => 0)) H := hP
  have hD : va_D A (circW h0 q1 hw1 cL (fun _ => 0)) := hD
  refine W.widen (k := 2) (n := 4161) (Nat.le_of_ble_eq_true rfl) (Nat.le_of_ble_eq_true rfl) ?_
  subst hAe
  exact W.vret hx hb hr (fun t ht hW => ⟨⟨(q1, hw1, cL), rfl, trivial, by rw [ht]; exact hP, va_K.moved hW.alike hK, hD⟩, hS.F ht⟩) hS.2.2 d_C_init_18
set_option maxHeartbeats 4000000 in
set_option maxRecDepth 100000 in
theorem c_B_init (l : Launch) (D : va_G) (h0 sz : Nat) : Met l y_B_init (wk y_B_init b_B_init 1 none) rn_B_init (Fp D cls [] [(h0, .inr (0, [.null, .null, .null, .null, .int (nI 0), .int (nI 0), .null, .int (nI 0), .int (nI 0), .null, .int (nI 0), .int (nI 0), .null, .int (nI 0)]))] sz [.ref h0] XN) (va_Qv (S := (Nat → Nat) × ClassId × ClassId) (fun u => u.1 0 = h0) (fun u t => va_P D cls (bsW u.1 u.2.1 u.2.2 0 0 0 0 0 0 0 (fun _ => 0) (fun _ => 0) (fun _ => 0) (fun _ => 0) (fun _ => 0) (oFill true 250 1 (fun _ => 0))) t.heap ∧ va_K D cls [(u.2.1, .long), (u.2.2, .int)] t ∧ va_D (va_A [(h0, .inr (0, [.null, .null, .null, .null, .int (nI 0), .int (nI 0), .null, .int (nI 0), .int (nI 0), .null, .int (nI 0), .int (nI 0), .null, .int (nI 0)]))] sz) (bsW u.1 u.2.1 u.2.2 0 0 0 0 0 0 0 (fun _ => 0) (fun _ => 0) (fun _ => 0) (fun _ => 0) (fun _ => 0) (oFill true 250 1 (fun _ => 0)))) (va_A [(h0, .inr (0, [.null, .null, .null, .null, .int (nI 0), .int (nI 0), .null, .int (nI 0), .int (nI 0), .null, .int (nI 0), .int (nI 0), .null, .int (nI 0)]))] sz)) 8 4238 (va_A [(h0, .inr (0, [.null, .null, .null, .null, .int (nI 0), .int (nI 0), .null, .int (nI 0), .int (nI 0), .null, .int (nI 0), .int (nI 0), .null, .int (nI 0)]))] sz) := by
  refine Met.ofW (cc := b_B_init) (maxL := 1) (ret := none) (by decide) rfl ?_
  intro p e s m args below meth c s₁ B hml hv
  obtain ⟨rfl, hsz, hP, hK, hD0, hX⟩ := hv
  have hx := B.exec
  have hb := B.bytes
  have hr := B.returns
  have hts : ∀ w ∈ lw_ok, w.before _ s = true := fun w h => atoms_spec (ws := wk y_B_init b_B_init 1 none) B.pre w (List.mem_cons_of_mem _ h)
  have hown : s.vm.findClass R_B = some m.cls := findClass_of_methodNamed B.named
  have hlocks := B.notSynchronized
  have hin : meth.name = "<init>" := (name_of_methodNamed B.named B.method).1
  subst hsz
  have hD := hD0.self (sz := s.heap.size)
  obtain ⟨A, hAe⟩ : ∃ A : Nat → Prop, A = va_A [(h0, .inr (0, [.null, .null, .null, .null, .int (nI 0), .int (nI 0), .null, .int (nI 0), .int (nI 0), .null, .int (nI 0), .int (nI 0), .null, .int (nI 0)]))] s.heap.size := ⟨_, rfl⟩
  rw [← hAe] at hD
  have hA : ∀ q : Nat, s.heap.size ≤ q → A q := fun q h => by rw [hAe]; exact Or.inr h
  have hS : va_S A s.heap s.heap [] := va_S.rf
  have hP : va_P D cls [(h0, .inr (0, [.null, .null, .null, .null, .int (nI 0), .int (nI 0), .null, .int (nI 0), .int (nI 0), .null, .int (nI 0), .int (nI 0), .null, .int (nI 0)]))] s.heap := hP
  have hl := lv_entry ([.ref h0]) (n := 1) (Nat.le_of_ble_eq_true rfl)
  rw [lg_entry_eq]
  generalize (lg_sl ([.ref h0]) ++ List.replicate (1 - (lg_sl ([.ref h0])).length) Slot.unset).toArray = ls at hl ⊢
  have hl : lv_has ls 1 [(0, .ref h0)] := hl
  refine lv_aload_n hx hb d_B_init_0 rfl (lv_at hl 0 rfl) ?_
  refine W.objInit hx hb hown (hts _ wd_17) (hts _ wd_18) (hts _ wd_19) rfl (by rw [hml]; exact hl.1) rfl d_B_init_1 (Nat.le_of_ble_eq_true rfl) (Nat.le_of_ble_eq_true rfl) ?_
  refine W.eq (g2 := F0 m 4 ls []) rfl ?_
  refine lv_aload_n hx hb d_B_init_4 rfl (lv_at hl 0 rfl) ?_
  refine va_new (ci := 2) (fs := [.null]) (C := R_C) (T := F_C) (N := 1) hx hb hts in_C t_C tok_C hown (hts _ wd_20) (hts _ wd_21) (hts _ wd_2) hK hP hD hS hA rfl (fun j hj => by rcases (show j = 0 by omega) with rfl; rfl) (Nat.le_of_ble_eq_true rfl) (Nat.le_of_ble_eq_true rfl) d_B_init_5 (fun hc H hP hD hS => ?_)
  have hP : va_P D cls [(h0, .inr (0, [.null, .null, .null, .null, .int (nI 0), .int (nI 0), .null, .int (nI 0), .int (nI 0), .null, .int (nI 0), .int (nI 0), .null, .int (nI 0)])), (hc, .inr (2, [.null]))] H := hP
  have hD : va_D A [(h0, .inr (0, [.null, .null, .null, .null, .int (nI 0), .int (nI 0), .null, .int (nI 0), .int (nI 0), .null, .int (nI 0), .int (nI 0), .null, .int (nI 0)])), (hc, .inr (2, [.null]))] := hD
  refine lv_dup hx hb d_B_init_8 rfl ?_
  have hPc := hP.sub (ws' := [(hc, .inr (2, [.null]))]) [1] rfl
  have hDc := hD.sub (ws' := [(hc, .inr (2, [.null]))]) [1] (by decide) rfl
  have hKc := hK.sub (tys' := []) [] rfl
  have hFc := va_free (wc := [(hc, .inr (2, [.null]))]) hD hS hA [1] rfl
  refine va_callv (va_runI (As := []) (rest := [.ref hc, .ref h0]) ⟨hx, hb, hml, hown, hts⟩ (c_C_init l D hc H.size) ⟨callB_of 0 hts (gW wd_24) rfl rfl rfl (hts _ wd_2) (hts _ wd_22) hd_C_init ⟨Nat.le_of_ble_eq_true rfl, Nat.le_of_ble_eq_true rfl⟩, rfl, hts _ wd_23⟩ ⟨Fp_blind XT_ok, fun U hU hW => ⟨rfl, by rw [hU], by rw [hU]; exact hPc, va_K.moved hW.alike hKc, hDc.weaken (fun _ _ _ _ => trivial), trivial⟩⟩ rfl rfl hl.1 rfl (lv_room (Nat.le_of_ble_eq_true rfl)) d_B_init_9 ⟨Nat.le_of_ble_eq_true rfl, Nat.le_of_ble_eq_true rfl⟩) hS (fun q _ h => hFc q h) hFc (fun u t H1 locs ht hvm hw hB hz1 hk1 hS => ?_)
  obtain ⟨hs, hw1, cL⟩ := u
  obtain ⟨hP1, hK1, hD1⟩ := hB
  rw [ht] at hP1
  have hK1 := va_K.moved hvm.symm hK1
  obtain ⟨hP, hD⟩ := va_join (wr := [(h0, .inr (0, [.null, .null, .null, .null, .int (nI 0), .int (nI 0), .null, .int (nI 0), .int (nI 0), .null, .int (nI 0), .int (nI 0), .null, .int (nI 0)]))]) (w1 := circW hc hs hw1 cL (fun _ => 0)) hP hD [1] [0] rfl rfl (by decide) (by decide) hk1 hFc hP1 hD1
  have hK := (hK.sub (tys' := []) [] rfl).app hK1
  generalize H1 = H at hP hS ⊢
  have hP : va_P D cls [(h0, .inr (0, [.null, .null, .null, .null, .int (nI 0), .int (nI 0), .null, .int (nI 0), .int (nI 0), .null, .int (nI 0), .int (nI 0), .null, .int (nI 0)])), (hc, .inr (2, [.ref hs])), (hs, .inr (1, [.ref hw1])), (hw1, .inl (cL, 4160, .inr (.inl (fun _ => 0))))] H := hP
  have hD : va_D A [(h0, .inr (0, [.null, .null, .null, .null, .int (nI 0), .int (nI 0), .null, .int (nI 0), .int (nI 0), .null, .int (nI 0), .int (nI 0), .null, .int (nI 0)])), (hc, .inr (2, [.ref hs])), (hs, .inr (1, [.ref hw1])), (hw1, .inl (cL, 4160, .inr (.inl (fun _ => 0))))] := hD
  have hK : va_K D cls [(cL, .long)] s := hK
  refine va_putF (D := D) (ci := 0) (v := .ref hc) (ty := .object "BitSolver$Circuits") (C := R_B) (T := F_B) (N := 14) hx hb hts in_B t_B tok_B nm_B hown hK hP hD hS 0 rfl rfl 1 (by decide) (hts _ wd_48) (fun _ h9 => h9) rfl hin rfl (by decide +kernel) rfl rfl (Nat.le_of_ble_eq_true rfl) d_B_init_12 (fun H locs hP hD hS => ?_)
  have hP : va_P D cls [(h0, .inr (0, [.null, .ref hc, .null, .null, .int (nI 0), .int (nI 0), .null, .int (nI 0), .int (nI 0), .null, .int (nI 0), .int (nI 0), .null, .int (nI 0)])), (hc, .inr (2, [.ref hs])), (hs, .inr (1, [.ref hw1])), (hw1, .inl (cL, 4160, .inr (.inl (fun _ => 0))))] H := hP
  have hD : va_D A [(h0, .inr (0, [.null, .ref hc, .null, .null, .int (nI 0), .int (nI 0), .null, .int (nI 0), .int (nI 0), .null, .int (nI 0), .int (nI 0), .null, .int (nI 0)])), (hc, .inr (2, [.ref hs])), (hs, .inr (1, [.ref hw1])), (hw1, .inl (cL, 4160, .inr (.inl (fun _ => 0))))] := hD
  refine lv_aload_n hx hb d_B_init_15 rfl (lv_at hl 0 rfl) ?_
  refine lv_aload_n hx hb d_B_init_16 rfl (lv_at hl 0 rfl) ?_
  refine va_get (D := D) (ci := 0) (v := .ref hc) (C := R_B) (T := F_B) (N := 14) hx hb hts in_B hown hK hP 0 rfl rfl 1 (by decide) (hts _ wd_48) (fun _ h9 => h9) rfl d_B_init_17 ?_
  refine va_getN (D := D) (ci := 2) (v := .ref hs) (C := R_C) (T := F_C) (N := 1) hx hb hts in_C hown hK hP 1 rfl rfl 0 (by decide) (va_Nw.use rfl hX) (fun _ h9 => h9) rfl d_B_init_20 ?_
  refine va_putF (D := D) (ci := 0) (v := .ref hs) (ty := .object "BitSolver$Sets") (C := R_B) (T := F_B) (N := 14) hx hb hts in_B t_B tok_B nm_B hown hK hP hD hS 0 rfl rfl 0 (by decide) (hts _ wd_47) (fun _ h9 => h9) rfl hin rfl (by decide +kernel) rfl rfl (Nat.le_of_ble_eq_true rfl) d_B_init_23 (fun H locs hP hD hS => ?_)
  have hP : va_P D cls [(h0, .inr (0, [.ref hs, .ref hc, .null, .null, .int (nI 0), .int (nI 0), .null, .int (nI 0), .int (nI 0), .null, .int (nI 0), .int (nI 0), .null, .int (nI 0)])), (hc, .inr (2, [.ref hs])), (hs, .inr (1, [.ref hw1])), (hw1, .inl (cL, 4160, .inr (.inl (fun _ => 0))))] H := hP
  have hD : va_D A [(h0, .inr (0, [.ref hs, .ref hc, .null, .null, .int (nI 0), .int (nI 0), .null, .int (nI 0), .int (nI 0), .null, .int (nI 0), .int (nI 0), .null, .int (nI 0)])), (hc, .inr (2, [.ref hs])), (hs, .inr (1, [.ref hw1])), (hw1, .inl (cL, 4160, .inr (.inl (fun _ => 0))))] := hD
  refine lv_aload_n hx hb d_B_init_26 rfl (lv_at hl 0 rfl) ?_
  refine lv_bipush (v := nI 6) hx hb d_B_init_27 (by decide) ?_
  refine va_newa (atype := .int) (ty := .int) (a0 := (6, .inl (fun _ => nI 0))) hx hb (hts _ wd_90) rfl hK hP hD hS hA (fun cA => rfl) (nI_pos (by decide)) (nI_clamp (n := 6) (by decide)) (by decide) (Nat.le_of_ble_eq_true rfl) (Nat.le_of_ble_eq_true rfl) d_B_init_29 (fun a4 cI H hK hP hD hS => ?_)
  have hP : va_P D cls [(h0, .inr (0, [.ref hs, .ref hc, .null, .null, .int (nI 0), .int (nI 0), .null, .int (nI 0), .int (nI 0), .null, .int (nI 0), .int (nI 0), .null, .int (nI 0)])), (hc, .inr (2, [.ref hs])), (hs, .inr (1, [.ref hw1])), (hw1, .inl (cL, 4160, .inr (.inl (fun _ => 0)))), (a4, .inl (cI, 6, .inl (fun _ => nI 0)))] H := hP
  have hD : va_D A [(h0, .inr (0, [.ref hs, .ref hc, .null, .null, .int (nI 0), .int (nI 0), .null, .int (nI 0), .int (nI 0), .null, .int (nI 0), .int (nI 0), .null, .int (nI 0)])), (hc, .inr (2, [.ref hs])), (hs, .inr (1, [.ref hw1])), (hw1, .inl (cL, 4160, .inr (.inl (fun _ => 0)))), (a4, .inl (cI, 6, .inl (fun _ => nI 0)))] := hD
  have hK : va_K D cls [(cL, .long), (cI, .int)] s := hK.sub [0, 1] rfl
  refine va_putF (D := D) (ci := 0) (v := .ref a4) (ty := .array .int) (C := R_B) (T := F_B) (N := 14) hx hb hts in_B t_B tok_B nm_B hown hK hP hD hS 0 rfl rfl 2 (by decide) (hts _ wd_49) (fun _ h9 => h9) rfl hin rfl (by decide +kernel) rfl rfl (Nat.le_of_ble_eq_true rfl) d_B_init_31 (fun H locs hP hD hS => ?_)
  have hP : va_P D cls [(h0, .inr (0, [.ref hs, .ref hc, .ref a4, .null, .int (nI 0), .int (nI 0), .null, .int (nI 0), .int (nI 0), .null, .int (nI 0), .int (nI 0), .null, .int (nI 0)])), (hc, .inr (2, [.ref hs])), (hs, .inr (1, [.ref hw1])), (hw1, .inl (cL, 4160, .inr (.inl (fun _ => 0)))), (a4, .inl (cI, 6, .inl (fun _ => nI 0)))] H := hP
  have hD : va_D A [(h0, .inr (0, [.ref hs, .ref hc, .ref a4, .null, .int (nI 0), .int (nI 0), .null, .int (nI 0), .int (nI 0), .null, .int (nI 0), .int (nI 0), .null, .int (nI 0)])), (hc, .inr (2, [.ref hs])), (hs, .inr (1, [.ref hw1])), (hw1, .inl (cL, 4160, .inr (.inl (fun _ => 0)))), (a4, .inl (cI, 6, .inl (fun _ => nI 0)))] := hD
  refine lv_aload_n hx hb d_B_init_34 rfl (lv_at hl 0 rfl) ?_
  refine lv_bipush (v := nI 6) hx hb d_B_init_35 (by decide) ?_
  refine va_newa (atype := .int) (ty := .int) (a0 := (6, .inl (fun _ => nI 0))) hx hb (hts _ wd_90) rfl hK hP hD hS hA (fun cA => rfl) (nI_pos (by decide)) (nI_clamp (n := 6) (by decide)) (by decide) (Nat.le_of_ble_eq_true rfl) (Nat.le_of_ble_eq_true rfl) d_B_init_37 (fun a5 c1 H hK hP hD hS => ?_)
  obtain rfl : cI = c1 := Option.some.inj ((hK.2 1 _ rfl).2.symm.trans (hK.2 2 _ rfl).2)
  have hP : va_P D cls [(h0, .inr (0, [.ref hs, .ref hc, .ref a4, .null, .int (nI 0), .int (nI 0), .null, .int (nI 0), .int (nI 0), .null, .int (nI 0), .int (nI 0), .null, .int (nI 0)])), (hc, .inr (2, [.ref hs])), (hs, .inr (1, [.ref hw1])), (hw1, .inl (cL, 4160, .inr (.inl (fun _ => 0)))), (a4, .inl (cI, 6, .inl (fun _ => nI 0))), (a5, .inl (cI, 6, .inl (fun _ => nI 0)))] H := hP
  have hD : va_D A [(h0, .inr (0, [.ref hs, .ref hc, .ref a4, .null, .int (nI 0), .int (nI 0), .null, .int (nI 0), .int (nI 0), .null, .int (nI 0), .int (nI 0), .null, .int (nI 0)])), (hc, .inr (2, [.ref hs])), (hs, .inr (1, [.ref hw1])), (hw1, .inl (cL, 4160, .inr (.inl (fun _ => 0)))), (a4, .inl (cI, 6, .inl (fun _ => nI 0))), (a5, .inl (cI, 6, .inl (fun _ => nI 0)))] := hD
  have hK : va_K D cls [(cL, .long), (cI, .int)] s := hK.sub [0, 1] rfl
  refine va_putF (D := D) (ci := 0) (v := .ref a5) (ty := .array .int) (C := R_B) (T := F_B) (N := 14) hx hb hts in_B t_B tok_B nm_B hown hK hP hD hS 0 rfl rfl 3 (by decide) (hts _ wd_50) (fun _ h9 => h9) rfl hin rfl (by decide +kernel) rfl rfl (Nat.le_of_ble_eq_true rfl) d_B_init_39 (fun H locs hP hD hS => ?_)
  have hP : va_P D cls [(h0, .inr (0, [.ref hs, .ref hc, .ref a4, .ref a5, .int (nI 0), .int (nI 0), .null, .int (nI 0), .int (nI 0), .null, .int (nI 0), .int (nI 0), .null, .int (nI 0)])), (hc, .inr (2, [.ref hs])), (hs, .inr (1, [.ref hw1])), (hw1, .inl (cL, 4160, .inr (.inl (fun _ => 0)))), (a4, .inl (cI, 6, .inl (fun _ => nI 0))), (a5, .inl (cI, 6, .inl (fun _ => nI 0)))] H := hP
  have hD : va_D A [(h0, .inr (0, [.ref hs, .ref hc, .ref a4, .ref a5, .int (nI 0), .int (nI 0), .null, .int (nI 0), .int (nI 0), .null, .int (nI 0), .int (nI 0), .null, .int (nI 0)])), (hc, .inr (2, [.ref hs])), (hs, .inr (1, [.ref hw1])), (hw1, .inl (cL, 4160, .inr (.inl (fun _ => 0)))), (a4, .inl (cI, 6, .inl (fun _ => nI 0))), (a5, .inl (cI, 6, .inl (fun _ => nI 0)))] := hD
  refine lv_aload_n hx hb d_B_init_42 rfl (lv_at hl 0 rfl) ?_
  refine lv_bipush (v := nI 50) hx hb d_B_init_43 (by decide) ?_
  refine va_newa (atype := .int) (ty := .int) (a0 := (50, .inl (fun _ => nI 0))) hx hb (hts _ wd_90) rfl hK hP hD hS hA (fun cA => rfl) (nI_pos (by decide)) (nI_clamp (n := 50) (by decide)) (by decide) (Nat.le_of_ble_eq_true rfl) (Nat.le_of_ble_eq_true rfl) d_B_init_45 (fun a6 c2 H hK hP hD hS => ?_)
  obtain rfl : cI = c2 := Option.some.inj ((hK.2 1 _ rfl).2.symm.trans (hK.2 2 _ rfl).2)
  have hP : va_P D cls [(h0, .inr (0, [.ref hs, .ref hc, .ref a4, .ref a5, .int (nI 0), .int (nI 0), .null, .int (nI 0), .int (nI 0), .null, .int (nI 0), .int (nI 0), .null, .int (nI 0)])), (hc, .inr (2, [.ref hs])), (hs, .inr (1, [.ref hw1])), (hw1, .inl (cL, 4160, .inr (.inl (fun _ => 0)))), (a4, .inl (cI, 6, .inl (fun _ => nI 0))), (a5, .inl (cI, 6, .inl (fun _ => nI 0))), (a6, .inl (cI, 50, .inl (fun _ => nI 0)))] H := hP
  have hD : va_D A [(h0, .inr (0, [.ref hs, .ref hc, .ref a4, .ref a5, .int (nI 0), .int (nI 0), .null, .int (nI 0), .int (nI 0), .null, .int (nI 0), .int (nI 0), .null, .int (nI 0)])), (hc, .inr (2, [.ref hs])), (hs, .inr (1, [.ref hw1])), (hw1, .inl (cL, 4160, .inr (.inl (fun _ => 0)))), (a4, .inl (cI, 6, .inl (fun _ => nI 0))), (a5, .inl (cI, 6, .inl (fun _ => nI 0))), (a6, .inl (cI, 50, .inl (fun _ => nI 0)))] := hD
  have hK : va_K D cls [(cL, .long), (cI, .int)] s := hK.sub [0, 1] rfl
  refine va_putF (D := D) (ci := 0) (v := .ref a6) (ty := .array .int) (C := R_B) (T := F_B) (N := 14) hx hb hts in_B t_B tok_B nm_B hown hK hP hD hS 0 rfl rfl 6 (by decide) (hts _ wd_53) (fun _ h9 => h9) rfl hin rfl (by decide +kernel) rfl rfl (Nat.le_of_ble_eq_true rfl) d_B_init_47 (fun H locs hP hD hS => ?_)
  have hP : va_P D cls [(h0, .inr (0, [.ref hs, .ref hc, .ref a4, .ref a5, .int (nI 0), .int (nI 0), .ref a6, .int (nI 0), .int (nI 0), .null, .int (nI 0), .int (nI 0), .null, .int (nI 0)])), (hc, .inr (2, [.ref hs])), (hs, .inr (1, [.ref hw1])), (hw1, .inl (cL, 4160, .inr (.inl (fun _ => 0)))), (a4, .inl (cI, 6, .inl (fun _ => nI 0))), (a5, .inl (cI, 6, .inl (fun _ => nI 0))), (a6, .inl (cI, 50, .inl (fun _ => nI 0)))] H := hP
  have hD : va_D A [(h0, .inr (0, [.ref hs, .ref hc, .ref a4, .ref a5, .int (nI 0), .int (nI 0), .ref a6, .int (nI 0), .int (nI 0), .null, .int (nI 0), .int (nI 0), .null, .int (nI 0)])), (hc, .inr (2, [.ref hs])), (hs, .inr (1, [.ref hw1])), (hw1, .inl (cL, 4160, .inr (.inl (fun _ => 0)))), (a4, .inl (cI, 6, .inl (fun _ => nI 0))), (a5, .inl (cI, 6, .inl (fun _ => nI 0))), (a6, .inl (cI, 50, .inl (fun _ => nI 0)))] := hD
  refine lv_aload_n hx hb d_B_init_50 rfl (lv_at hl 0 rfl) ?_
  refine lv_bipush (v := nI 6) hx hb d_B_init_51 (by decide) ?_
  refine va_newa (atype := .int) (ty := .int) (a0 := (6, .inl (fun _ => nI 0))) hx hb (hts _ wd_90) rfl hK hP hD hS hA (fun cA => rfl) (nI_pos (by decide)) (nI_clamp (n := 6) (by decide)) (by decide) (Nat.le_of_ble_eq_true rfl) (Nat.le_of_ble_eq_true rfl) d_B_init_53 (fun a7 c3 H hK hP hD hS => ?_)
  obtain rfl : cI = c3 := Option.some.inj ((hK.2 1 _ rfl).2.symm.trans (hK.2 2 _ rfl).2)
  have hP : va_P D cls [(h0, .inr (0, [.ref hs, .ref hc, .ref a4, .ref a5, .int (nI 0), .int (nI 0), .ref a6, .int (nI 0), .int (nI 0), .null, .int (nI 0), .int (nI 0), .null, .int (nI 0)])), (hc, .inr (2, [.ref hs])), (hs, .inr (1, [.ref hw1])), (hw1, .inl (cL, 4160, .inr (.inl (fun _ => 0)))), (a4, .inl (cI, 6, .inl (fun _ => nI 0))), (a5, .inl (cI, 6, .inl (fun _ => nI 0))), (a6, .inl (cI, 50, .inl (fun _ => nI 0))), (a7, .inl (cI, 6, .inl (fun _ => nI 0)))] H := hP
  have hD : va_D A [(h0, .inr (0, [.ref hs, .ref hc, .ref a4, .ref a5, .int (nI 0), .int (nI 0), .ref a6, .int (nI 0), .int (nI 0), .null, .int (nI 0), .int (nI 0), .null, .int (nI 0)])), (hc, .inr (2, [.ref hs])), (hs, .inr (1, [.ref hw1])), (hw1, .inl (cL, 4160, .inr (.inl (fun _ => 0)))), (a4, .inl (cI, 6, .inl (fun _ => nI 0))), (a5, .inl (cI, 6, .inl (fun _ => nI 0))), (a6, .inl (cI, 50, .inl (fun _ => nI 0))), (a7, .inl (cI, 6, .inl (fun _ => nI 0)))] := hD
  have hK : va_K D cls [(cL, .long), (cI, .int)] s := hK.sub [0, 1] rfl
  refine va_putF (D := D) (ci := 0) (v := .ref a7) (ty := .array .int) (C := R_B) (T := F_B) (N := 14) hx hb hts in_B t_B tok_B nm_B hown hK hP hD hS 0 rfl rfl 9 (by decide) (hts _ wd_56) (fun _ h9 => h9) rfl hin rfl (by decide +kernel) rfl rfl (Nat.le_of_ble_eq_true rfl) d_B_init_55 (fun H locs hP hD hS => ?_)
  have hP : va_P D cls [(h0, .inr (0, [.ref hs, .ref hc, .ref a4, .ref a5, .int (nI 0), .int (nI 0), .ref a6, .int (nI 0), .int (nI 0), .ref a7, .int (nI 0), .int (nI 0), .null, .int (nI 0)])), (hc, .inr (2, [.ref hs])), (hs, .inr (1, [.ref hw1])), (hw1, .inl (cL, 4160, .inr (.inl (fun _ => 0)))), (a4, .inl (cI, 6, .inl (fun _ => nI 0))), (a5, .inl (cI, 6, .inl (fun _ => nI 0))), (a6, .inl (cI, 50, .inl (fun _ => nI 0))), (a7, .inl (cI, 6, .inl (fun _ => nI 0)))] H := hP
  have hD : va_D A [(h0, .inr (0, [.ref hs, .ref hc, .ref a4, .ref a5, .int (nI 0), .int (nI 0), .ref a6, .int (nI 0), .int (nI 0), .ref a7, .int (nI 0), .int (nI 0), .null, .int (nI 0)])), (hc, .inr (2, [.ref hs])), (hs, .inr (1, [.ref hw1])), (hw1, .inl (cL, 4160, .inr (.inl (fun _ => 0)))), (a4, .inl (cI, 6, .inl (fun _ => nI 0))), (a5, .inl (cI, 6, .inl (fun _ => nI 0))), (a6, .inl (cI, 50, .inl (fun _ => nI 0))), (a7, .inl (cI, 6, .inl (fun _ => nI 0)))] := hD
  refine lv_aload_n hx hb d_B_init_58 rfl (lv_at hl 0 rfl) ?_
  refine lv_bipush (v := nI 8) hx hb d_B_init_59 (by decide) ?_
  refine va_newa (atype := .int) (ty := .int) (a0 := (8, .inl (fun _ => nI 0))) hx hb (hts _ wd_90) rfl hK hP hD hS hA (fun cA => rfl) (nI_pos (by decide)) (nI_clamp (n := 8) (by decide)) (by decide) (Nat.le_of_ble_eq_true rfl) (Nat.le_of_ble_eq_true rfl) d_B_init_61 (fun a8 c4 H hK hP hD hS => ?_)
  obtain rfl : cI = c4 := Option.some.inj ((hK.2 1 _ rfl).2.symm.trans (hK.2 2 _ rfl).2)
  have hP : va_P D cls [(h0, .inr (0, [.ref hs, .ref hc, .ref a4, .ref a5, .int (nI 0), .int (nI 0), .ref a6, .int (nI 0), .int (nI 0), .ref a7, .int (nI 0), .int (nI 0), .null, .int (nI 0)])), (hc, .inr (2, [.ref hs])), (hs, .inr (1, [.ref hw1])), (hw1, .inl (cL, 4160, .inr (.inl (fun _ => 0)))), (a4, .inl (cI, 6, .inl (fun _ => nI 0))), (a5, .inl (cI, 6, .inl (fun _ => nI 0))), (a6, .inl (cI, 50, .inl (fun _ => nI 0))), (a7, .inl (cI, 6, .inl (fun _ => nI 0))), (a8, .inl (cI, 8, .inl (fun _ => nI 0)))] H := hP
  have hD : va_D A [(h0, .inr (0, [.ref hs, .ref hc, .ref a4, .ref a5, .int (nI 0), .int (nI 0), .ref a6, .int (nI 0), .int (nI 0), .ref a7, .int (nI 0), .int (nI 0), .null, .int (nI 0)])), (hc, .inr (2, [.ref hs])), (hs, .inr (1, [.ref hw1])), (hw1, .inl (cL, 4160, .inr (.inl (fun _ => 0)))), (a4, .inl (cI, 6, .inl (fun _ => nI 0))), (a5, .inl (cI, 6, .inl (fun _ => nI 0))), (a6, .inl (cI, 50, .inl (fun _ => nI 0))), (a7, .inl (cI, 6, .inl (fun _ => nI 0))), (a8, .inl (cI, 8, .inl (fun _ => nI 0)))] := hD
  have hK : va_K D cls [(cL, .long), (cI, .int)] s := hK.sub [0, 1] rfl
  refine va_putF (D := D) (ci := 0) (v := .ref a8) (ty := .array .int) (C := R_B) (T := F_B) (N := 14) hx hb hts in_B t_B tok_B nm_B hown hK hP hD hS 0 rfl rfl 12 (by decide) (hts _ wd_59) (fun _ h9 => h9) rfl hin rfl (by decide +kernel) rfl rfl (Nat.le_of_ble_eq_true rfl) d_B_init_63 (fun H locs hP hD hS => ?_)
  have hP : va_P D cls [(h0, .inr (0, [.ref hs, .ref hc, .ref a4, .ref a5, .int (nI 0), .int (nI 0), .ref a6, .int (nI 0), .int (nI 0), .ref a7, .int (nI 0), .int (nI 0), .ref a8, .int (nI 0)])), (hc, .inr (2, [.ref hs])), (hs, .inr (1, [.ref hw1])), (hw1, .inl (cL, 4160, .inr (.inl (fun _ => 0)))), (a4, .inl (cI, 6, .inl (fun _ => nI 0))), (a5, .inl (cI, 6, .inl (fun _ => nI 0))), (a6, .inl (cI, 50, .inl (fun _ => nI 0))), (a7, .inl (cI, 6, .inl (fun _ => nI 0))), (a8, .inl (cI, 8, .inl (fun _ => nI 0)))] H := hP
  have hD : va_D A [(h0, .inr (0, [.ref hs, .ref hc, .ref a4, .ref a5, .int (nI 0), .int (nI 0), .ref a6, .int (nI 0), .int (nI 0), .ref a7, .int (nI 0), .int (nI 0), .ref a8, .int (nI 0)])), (hc, .inr (2, [.ref hs])), (hs, .inr (1, [.ref hw1])), (hw1, .inl (cL, 4160, .inr (.inl (fun _ => 0)))), (a4, .inl (cI, 6, .inl (fun _ => nI 0))), (a5, .inl (cI, 6, .inl (fun _ => nI 0))), (a6, .inl (cI, 50, .inl (fun _ => nI 0))), (a7, .inl (cI, 6, .inl (fun _ => nI 0))), (a8, .inl (cI, 8, .inl (fun _ => nI 0)))] := hD
  obtain ⟨ad, ead⟩ : ∃ ad : Nat → Nat, ad = fun i => [h0, hc, hs, hw1, a4, a5, a6, a7, a8].getD i 0 := ⟨_, rfl⟩
  have hP : va_P D cls (bsW ad cL cI 0 0 0 0 0 0 0 (fun _ => 0) (fun _ => 0) (fun _ => 0) (fun _ => 0) (fun _ => 0) (fun _ => 0)) H := by rw [ead]; exact hP
  have hD : va_D A (bsW ad cL cI 0 0 0 0 0 0 0 (fun _ => 0) (fun _ => 0) (fun _ => 0) (fun _ => 0) (fun _ => 0) (fun _ => 0)) := by rw [ead]; exact hD
  have hl : lv_has ls 1 [(0, .ref (ad 0))] := by rw [ead]; exact hl
  have e0 : ad 0 = h0 := by rw [ead]; rfl
  refine lv_aload_n hx hb d_B_init_66 rfl (lv_at hl 0 rfl) ?_
  refine va_get (D := D) (ci := 0) (v := .ref (ad 2)) (C := R_B) (T := F_B) (N := 14) hx hb hts in_B hown hK hP 0 rfl rfl 0 (by decide) (hts _ wd_47) (fun _ h9 => h9) rfl d_B_init_67 ?_
  refine lv_sipush (v := nI 250) hx hb d_B_init_70 (by decide) ?_
  refine lv_iconst (v := nI 1) hx hb d_B_init_73 (by decide) ?_
  refine lv_iconst (v := nI 1) hx hb d_B_init_74 (by decide) ?_
  refine fn_V (ws' := (bsW ad cL cI 0 0 0 0 0 0 0 (fun _ => 0) (fun _ => 0) (fun _ => 0) (fun _ => 0) (fun _ => 0) (oFill true 250 1 (fun _ => 0)))) (w1 := (setsW (ad 2) (ad 3) cL (oFill true 250 1 (fun _ => 0)))) (wc := (setsW (ad 2) (ad 3) cL (fun _ => 0))) (wr := [(ad 0, .inr (0, [.ref (ad 2), .ref (ad 1), .ref (ad 4), .ref (ad 5), .int (nI 0), .int (nI 0), .ref (ad 6), .int (nI 0), .int (nI 0), .ref (ad 7), .int (nI 0), .int (nI 0), .ref (ad 8), .int (nI 0)])), (ad 1, .inr (2, [.ref (ad 2)])), (ad 4, .inl (cI, 6, .inl (fun j => nI ((fun _ => 0) j)))), (ad 5, .inl (cI, 6, .inl (fun j => nI ((fun _ => 0) j)))), (ad 6, .inl (cI, 50, .inl (fun j => nI ((fun _ => 0) j)))), (ad 7, .inl (cI, 6, .inl (fun j => nI ((fun _ => 0) j)))), (ad 8, .inl (cI, 8, .inl (fun j => nI ((fun _ => 0) j))))]) ⟨hx, hb, hml, hown, hts⟩ (c_S_fill l D (ad 2) (ad 3) cL (fun _ => 0) 250 1 true (by omega)) ⟨callB_of 3 hts (gW wd_45) rfl rfl rfl (hts _ wd_3) (hts _ wd_42) hd_S_fill ⟨Nat.le_of_ble_eq_true rfl, Nat.le_of_ble_eq_true rfl⟩, hts _ wd_43, hts _ wd_44⟩ XT_ok (fun _ _ _ => trivial) hK hP hD hS hA 2 1 rfl rfl rfl [0] [2, 3] [0, 1, 4, 5, 6, 7, 8] [0, 1, 7, 8, 2, 3, 4, 5, 6] rfl rfl rfl rfl rfl (by decide) rfl rfl rfl hl.1 rfl (Nat.le_of_ble_eq_true rfl) d_B_init_75 ⟨Nat.le_of_ble_eq_true rfl, Nat.le_of_ble_eq_true rfl⟩ (st1 := []) rfl (fun H locs hP hD hS => ?_)
  refine W.widen (k := 8) (n := 4238) (Nat.le_of_ble_eq_true rfl) (Nat.le_of_ble_eq_true rfl) ?_
  subst hAe
  exact W.vret hx hb hr (fun t ht hW => ⟨⟨(ad, cL, cI), rfl, e0, by rw [ht]; exact hP, va_K.moved hW.alike hK, hD⟩, hS.F ht⟩) hS.2.2 d_B_init_78
