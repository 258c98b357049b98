set_option maxHeartbeats 4000000 in
set_option maxRecDepth 100000 in
theorem c_M_thrown (l : Launch) (D : va_G) (ma : Nat → Nat) (cI cZ : ClassId) (th nv nb nt nf na lv nm : Nat) (vw tk ta : Nat → Nat) (tb tc : Nat → Int32) (tw fk fa : Nat → Nat) (fb : Nat → Int32) (od sd aa am vl : Nat → Nat) (ho : Nat → Bool) (hok : Mok nv nb nt nf na lv nm vw tk ta tb tc tw fk fa fb od sd am vl)  : Fn l y_M_thrown (wk y_M_thrown b_M_thrown 1 (some .int)) rm_M_thrown D cls [(cI, .int), (cZ, .boolean)] [.ref (ma 0)] (mW ma cI cZ th nv nb nt nf na lv nm vw tk ta tb tc tw fk fa fb od sd aa am vl ho) XT (some (.int (nI th))) (mW ma cI cZ th nv nb nt nf na lv nm vw tk ta tb tc tw fk fa fb od sd aa am vl ho) := by
  refine Fn.of (by decide) rfl (Nat.le_of_ble_eq_true rfl) ?_
  intro p e s m below meth c A ls hx hb hml hr hts0 hown hlocks hnm hP hK hD hS hA hAe hX hl
  have hts : ∀ w ∈ lw_ok, w.before _ s = true := fun w h => hts0 w (List.mem_cons_of_mem _ h)
  have hown : s.vm.findClass R_M = some m.cls := hown
  have hP : va_P D cls (mW ma cI cZ th nv nb nt nf na lv nm vw tk ta tb tc tw fk fa fb od sd aa am vl ho) s.heap := hP
  have hl : lv_has ls 1 [(0, .ref (ma 0))] := hl
  obtain ⟨o_nv, o_nb, o_nt, o_nf, o_na, o_lv, o_nm, o_vw, o_tw, o_am, o_sd, o_T, o_F, o_od, o_vl⟩ := id hok
  refine lv_aload_n hx hb d_M_thrown_0 rfl (lv_at hl 0 rfl) ?_
  refine va_get (D := D) (ci := 3) (v := .int (nI th)) (C := R_M) (T := F_M) (N := 23) hx hb hts in_M hown hK hP 0 rfl rfl 0 (by decide) (hts _ wd_514) (fun _ h9 => h9) rfl d_M_thrown_1 ?_
  exact fn_iret hx hb hr hlocks hAe hK hP hD hS rfl d_M_thrown_4
set_option maxHeartbeats 4000000 in
set_option maxRecDepth 100000 in
theorem c_M_raise (l : Launch) (D : va_G) (ma : Nat → Nat) (cI cZ : ClassId) (th nv nb nt nf na lv nm : Nat) (vw tk ta : Nat → Nat) (tb tc : Nat → Int32) (tw fk fa : Nat → Nat) (fb : Nat → Int32) (od sd aa am vl : Nat → Nat) (ho : Nat → Bool) (hok : Mok nv nb nt nf na lv nm vw tk ta tb tc tw fk fa fb od sd am vl) (cd : Nat) : Fn l y_M_raise (wk y_M_raise b_M_raise 2 (some .int)) rm_M_raise D cls [(cI, .int), (cZ, .boolean)] [.ref (ma 0), .int (nI cd)] (mW ma cI cZ th nv nb nt nf na lv nm vw tk ta tb tc tw fk fa fb od sd aa am vl ho) XT (some (.int (nI 0))) (mW ma cI cZ cd nv nb nt nf na lv nm vw tk ta tb tc tw fk fa fb od sd aa am vl ho) := by
  refine Fn.of (by decide) rfl (Nat.le_of_ble_eq_true rfl) ?_
  intro p e s m below meth c A ls hx hb hml hr hts0 hown hlocks hnm hP hK hD hS hA hAe hX hl
  have hts : ∀ w ∈ lw_ok, w.before _ s = true := fun w h => hts0 w (List.mem_cons_of_mem _ h)
  have hown : s.vm.findClass R_M = some m.cls := hown
  have hP : va_P D cls (mW ma cI cZ th nv nb nt nf na lv nm vw tk ta tb tc tw fk fa fb od sd aa am vl ho) s.heap := hP
  have hl : lv_has ls 2 [(0, .ref (ma 0)), (1, .int (nI cd))] := hl
  obtain ⟨o_nv, o_nb, o_nt, o_nf, o_na, o_lv, o_nm, o_vw, o_tw, o_am, o_sd, o_T, o_F, o_od, o_vl⟩ := id hok
  refine lv_aload_n hx hb d_M_raise_0 rfl (lv_at hl 0 rfl) ?_
  refine lv_iload_n hx hb d_M_raise_1 rfl (lv_at hl 1 rfl) ?_
  refine va_put (D := D) (ci := 3) (v := .int (nI cd)) (ty := .int) (C := R_M) (T := F_M) (N := 23) hx hb hts in_M t_M tok_M nm_M hown hK hP hD hS 0 rfl rfl 0 (by decide) (hts _ wd_514) (fun _ h9 => h9) rfl (by decide +kernel) rfl rfl (Nat.le_of_ble_eq_true rfl) d_M_raise_2 (fun H locs hP hD hS => ?_)
  have hP : va_P D cls (mW ma cI cZ cd nv nb nt nf na lv nm vw tk ta tb tc tw fk fa fb od sd aa am vl ho) H := hP
  have hD : va_D A (mW ma cI cZ cd nv nb nt nf na lv nm vw tk ta tb tc tw fk fa fb od sd aa am vl ho) := hD
  refine lv_iconst (v := nI 0) hx hb d_M_raise_5 (by decide) ?_
  exact fn_iret hx hb hr hlocks hAe hK hP hD hS rfl d_M_raise_6
set_option maxHeartbeats 4000000 in
set_option maxRecDepth 100000 in
theorem c_M_in (l : Launch) (D : va_G) (x lo hi : Int32) : Fn l y_M_in (wk y_M_in b_M_in 3 (some .boolean)) rm_M_in D cls [] [.int x, .int lo, .int hi] (nilW) XT (some (.int (bI (inI x lo hi)))) (nilW) := by
  refine Fn.of (by decide) rfl (Nat.le_of_ble_eq_true rfl) ?_
  intro p e s m below meth c A ls hx hb hml hr hts0 hown hlocks hnm hP hK hD hS hA hAe hX hl
  have hts : ∀ w ∈ lw_ok, w.before _ s = true := fun w h => hts0 w (List.mem_cons_of_mem _ h)
  have hown : s.vm.findClass R_M = some m.cls := hown
  have hP : va_P D cls (nilW) s.heap := hP
  have hl : lv_has ls 3 [(0, .int x), (1, .int lo), (2, .int hi)] := hl
  refine lv_iload_n hx hb d_M_in_0 rfl (lv_at hl 0 rfl) ?_
  refine lv_iload_n hx hb d_M_in_1 rfl (lv_at hl 1 rfl) ?_
  refine z_icmp_lt (tgt := 14) hx hb rfl rfl d_M_in_2 (by decide) (fun c_2 => ?_) (fun c_2 => ?_)
  · refine lv_iconst (v := nI 0) hx hb d_M_in_14 (by decide) ?_
    exact fn_zret hx hb hr hlocks hAe hK hP hD hS (by rw [show inI x lo hi = false from decide_eq_false (by omega)]; rfl) d_M_in_15
  · refine lv_iload_n hx hb d_M_in_5 rfl (lv_at hl 0 rfl) ?_
    refine lv_iload_n hx hb d_M_in_6 rfl (lv_at hl 2 rfl) ?_
    refine z_icmp_gt (tgt := 14) hx hb rfl rfl d_M_in_7 (by decide) (fun c_7 => ?_) (fun c_7 => ?_)
    · refine lv_iconst (v := nI 0) hx hb d_M_in_14 (by decide) ?_
      exact fn_zret hx hb hr hlocks hAe hK hP hD hS (by rw [show inI x lo hi = false from decide_eq_false (by omega)]; rfl) d_M_in_15
    · refine lv_iconst (v := nI 1) hx hb d_M_in_10 (by decide) ?_
      refine lv_goto (tgt := 15) hx hb d_M_in_11 (by decide) ?_
      exact fn_zret hx hb hr hlocks hAe hK hP hD hS (by rw [show inI x lo hi = true from decide_eq_true ⟨by omega, by omega⟩]; rfl) d_M_in_15
set_option maxHeartbeats 4000000 in
set_option maxRecDepth 100000 in
theorem c_M_variable_0 (l : Launch) (D : va_G) (ma : Nat → Nat) (cI cZ : ClassId) (th nv nb nt nf na lv nm : Nat) (vw tk ta : Nat → Nat) (tb tc : Nat → Int32) (tw fk fa : Nat → Nat) (fb : Nat → Int32) (od sd aa am vl : Nat → Nat) (ho : Nat → Bool) (hok : Mok nv nb nt nf na lv nm vw tk ta tb tc tw fk fa fb od sd am vl) (wd : Nat) (h1 : 1 ≤ wd) (h4 : wd ≤ 4) (hn : nv < 6) (hbt : nb + wd ≤ 10) : Fn l y_M_variable (wk y_M_variable b_M_variable 2 (some .int)) rm_M_variable D cls [(cI, .int), (cZ, .boolean)] [.ref (ma 0), .int (nI wd)] (mW ma cI cZ th nv nb nt nf na lv nm vw tk ta tb tc tw fk fa fb od sd aa am vl ho) XT (some (.int (nI nv))) (mW ma cI cZ 0 (nv + 1) (nb + wd) nt nf na lv nm (updN vw nv wd) tk ta tb tc tw fk fa fb od sd aa am vl ho) := by
  refine Fn.of (by decide) rfl (Nat.le_of_ble_eq_true rfl) ?_
  intro p e s m below meth c A ls hx hb hml hr hts0 hown hlocks hnm hP hK hD hS hA hAe hX hl
  have hts : ∀ w ∈ lw_ok, w.before _ s = true := fun w h => hts0 w (List.mem_cons_of_mem _ h)
  have hown : s.vm.findClass R_M = some m.cls := hown
  have hP : va_P D cls (mW ma cI cZ th nv nb nt nf na lv nm vw tk ta tb tc tw fk fa fb od sd aa am vl ho) s.heap := hP
  have hl : lv_has ls 2 [(0, .ref (ma 0)), (1, .int (nI wd))] := hl
  obtain ⟨o_nv, o_nb, o_nt, o_nf, o_na, o_lv, o_nm, o_vw, o_tw, o_am, o_sd, o_T, o_F, o_od, o_vl⟩ := id hok
  refine lv_aload_n hx hb d_M_variable_0 rfl (lv_at hl 0 rfl) ?_
  refine lv_iconst (v := nI 0) hx hb d_M_variable_1 (by decide) ?_
  refine va_put (D := D) (ci := 3) (v := .int (nI 0)) (ty := .int) (C := R_M) (T := F_M) (N := 23) hx hb hts in_M t_M tok_M nm_M hown hK hP hD hS 0 rfl rfl 0 (by decide) (hts _ wd_514) (fun _ h9 => h9) rfl (by decide +kernel) rfl rfl (Nat.le_of_ble_eq_true rfl) d_M_variable_2 (fun H locs hP hD hS => ?_)
  have hP : va_P D cls (mW ma cI cZ 0 nv nb nt nf na lv nm vw tk ta tb tc tw fk fa fb od sd aa am vl ho) H := hP
  have hD : va_D A (mW ma cI cZ 0 nv nb nt nf na lv nm vw tk ta tb tc tw fk fa fb od sd aa am vl ho) := hD
  refine lv_iload_n hx hb d_M_variable_5 rfl (lv_at hl 1 rfl) ?_
  refine lv_iconst (v := nI 1) hx hb d_M_variable_6 (by decide) ?_
  refine lv_iconst (v := nI 4) hx hb d_M_variable_7 (by decide) ?_
  refine fn_S (ws' := (mW ma cI cZ 0 nv nb nt nf na lv nm vw tk ta tb tc tw fk fa fb od sd aa am vl ho)) (w1 := (nilW)) (wc := (nilW)) (wr := [(ma 0, .inr (3, [.int (nI 0), .ref (ma 1), .int (nI nv), .int (nI nb), .ref (ma 2), .ref (ma 3), .ref (ma 4), .ref (ma 5), .ref (ma 6), .int (nI nt), .ref (ma 7), .ref (ma 8), .ref (ma 9), .int (nI nf), .ref (ma 10), .ref (ma 11), .ref (ma 12), .int (nI na), .int (nI lv), .ref (ma 13), .int (nI nm), .ref (ma 14), .ref (ma 15)])), (ma 1, .inl (cI, 6, .inl (fun j => nI (vw j)))), (ma 2, .inl (cI, 50, .inl (fun j => nI (tk j)))), (ma 3, .inl (cI, 50, .inl (fun j => nI (ta j)))), (ma 4, .inl (cI, 50, .inl tb)), (ma 5, .inl (cI, 50, .inl tc)), (ma 6, .inl (cI, 50, .inl (fun j => nI (tw j)))), (ma 7, .inl (cI, 50, .inl (fun j => nI (fk j)))), (ma 8, .inl (cI, 50, .inl (fun j => nI (fa j)))), (ma 9, .inl (cI, 50, .inl fb)), (ma 10, .inl (cI, 100, .inl (fun j => nI (od j)))), (ma 11, .inl (cI, 30, .inl (fun j => nI (sd j)))), (ma 12, .inl (cI, 30, .inl (fun j => nI (aa j)))), (ma 13, .inl (cI, 8, .inl (fun j => nI (am j)))), (ma 14, .inl (cI, 50, .inl (fun j => nI (vl j)))), (ma 15, .inl (cZ, 50, .inl (fun j => bI (ho j))))]) ⟨hx, hb, hml, hown, hts⟩ (c_M_in l D (nI wd) (nI 1) (nI 4)) ⟨callB_of 3 hts (gW wd_595) rfl rfl rfl (hts _ wd_4) (hts _ wd_593) hd_M_in ⟨Nat.le_of_ble_eq_true rfl, Nat.le_of_ble_eq_true rfl⟩, hts _ wd_594⟩ XT_ok (fun _ _ _ => trivial) hK hP hD hS hA [] [] [0, 1, 2, 3, 4, 5, 6, 7, 8, 9, 10, 11, 12, 13, 14, 15] [0, 1, 2, 3, 4, 5, 6, 7, 8, 9, 10, 11, 12, 13, 14, 15] rfl rfl rfl rfl rfl (by decide) rfl rfl rfl hl.1 rfl (Nat.le_of_ble_eq_true rfl) d_M_variable_8 ⟨Nat.zero_le _, Nat.zero_le _⟩ (st1 := [.int (bI (inI (nI wd) (nI 1) (nI 4)))]) rfl (fun H locs hP hD hS => ?_)
  refine b_if_ne (tgt := 20) hx hb d_M_variable_11 (by decide) (fun c_11 => ?_) (fun c_11 => ?_)
  · refine lv_aload_n hx hb d_M_variable_20 rfl (lv_at hl 0 rfl) ?_
    refine va_get (D := D) (ci := 3) (v := .int (nI nv)) (C := R_M) (T := F_M) (N := 23) hx hb hts in_M hown hK hP 0 rfl rfl 2 (by decide) (hts _ wd_516) (fun _ h9 => h9) rfl d_M_variable_21 ?_
    refine lv_bipush (v := nI 6) hx hb d_M_variable_24 (by decide) ?_
    refine z_icmp_eq (tgt := 40) hx hb (nI_toInt (by omega)) (nI_toInt (by omega)) d_M_variable_26 (by decide) (fun c_26 => ?_) (fun c_26 => ?_)
    · exact absurd c_26 (by omega)
    · refine lv_aload_n hx hb d_M_variable_29 rfl (lv_at hl 0 rfl) ?_
      refine va_get (D := D) (ci := 3) (v := .int (nI nb)) (C := R_M) (T := F_M) (N := 23) hx hb hts in_M hown hK hP 0 rfl rfl 3 (by decide) (hts _ wd_517) (fun _ h9 => h9) rfl d_M_variable_30 ?_
      refine lv_iload_n hx hb d_M_variable_33 rfl (lv_at hl 1 rfl) ?_
      refine n_add hx hb d_M_variable_34 ?_
      refine lv_bipush (v := nI 10) hx hb d_M_variable_35 (by decide) ?_
      refine z_icmp_le (tgt := 46) hx hb (nI_toInt (by omega)) (nI_toInt (by omega)) d_M_variable_37 (by decide) (fun c_37 => ?_) (fun c_37 => ?_)
      · refine lv_aload_n hx hb d_M_variable_46 rfl (lv_at hl 0 rfl) ?_
        refine va_get (D := D) (ci := 3) (v := .ref (ma 1)) (C := R_M) (T := F_M) (N := 23) hx hb hts in_M hown hK hP 0 rfl rfl 1 (by decide) (hts _ wd_515) (fun _ h9 => h9) rfl d_M_variable_47 ?_
        refine lv_aload_n hx hb d_M_variable_50 rfl (lv_at hl 0 rfl) ?_
        refine va_get (D := D) (ci := 3) (v := .int (nI nv)) (C := R_M) (T := F_M) (N := 23) hx hb hts in_M hown hK hP 0 rfl rfl 2 (by decide) (hts _ wd_516) (fun _ h9 => h9) rfl d_M_variable_51 ?_
        refine lv_iload_n hx hb d_M_variable_54 rfl (lv_at hl 1 rfl) ?_
        refine n_iast hx hb hK hP hD hS 1 0 rfl rfl (i := nv) (by omega) (by omega) (updN_I _ _ _) d_M_variable_55 (ws' := (mW ma cI cZ 0 nv nb nt nf na lv nm (updN vw nv wd) tk ta tb tc tw fk fa fb od sd aa am vl ho)) rfl (fun H locs hP hD hS => ?_)
        refine lv_aload_n hx hb d_M_variable_56 rfl (lv_at hl 0 rfl) ?_
        refine lv_dup hx hb d_M_variable_57 rfl ?_
        refine va_get (D := D) (ci := 3) (v := .int (nI nv)) (C := R_M) (T := F_M) (N := 23) hx hb hts in_M hown hK hP 0 rfl rfl 2 (by decide) (hts _ wd_516) (fun _ h9 => h9) rfl d_M_variable_58 ?_
        refine lv_iconst (v := nI 1) hx hb d_M_variable_61 (by decide) ?_
        refine n_add hx hb d_M_variable_62 ?_
        refine va_put (D := D) (ci := 3) (v := .int (nI (nv + 1))) (ty := .int) (C := R_M) (T := F_M) (N := 23) hx hb hts in_M t_M tok_M nm_M hown hK hP hD hS 0 rfl rfl 2 (by decide) (hts _ wd_516) (fun _ h9 => h9) rfl (by decide +kernel) rfl rfl (Nat.le_of_ble_eq_true rfl) d_M_variable_63 (fun H locs hP hD hS => ?_)
        have hP : va_P D cls (mW ma cI cZ 0 (nv + 1) nb nt nf na lv nm (updN vw nv wd) tk ta tb tc tw fk fa fb od sd aa am vl ho) H := hP
        have hD : va_D A (mW ma cI cZ 0 (nv + 1) nb nt nf na lv nm (updN vw nv wd) tk ta tb tc tw fk fa fb od sd aa am vl ho) := hD
        refine lv_aload_n hx hb d_M_variable_66 rfl (lv_at hl 0 rfl) ?_
        refine lv_dup hx hb d_M_variable_67 rfl ?_
        refine va_get (D := D) (ci := 3) (v := .int (nI nb)) (C := R_M) (T := F_M) (N := 23) hx hb hts in_M hown hK hP 0 rfl rfl 3 (by decide) (hts _ wd_517) (fun _ h9 => h9) rfl d_M_variable_68 ?_
        refine lv_iload_n hx hb d_M_variable_71 rfl (lv_at hl 1 rfl) ?_
        refine n_add hx hb d_M_variable_72 ?_
        refine va_put (D := D) (ci := 3) (v := .int (nI (nb + wd))) (ty := .int) (C := R_M) (T := F_M) (N := 23) hx hb hts in_M t_M tok_M nm_M hown hK hP hD hS 0 rfl rfl 3 (by decide) (hts _ wd_517) (fun _ h9 => h9) rfl (by decide +kernel) rfl rfl (Nat.le_of_ble_eq_true rfl) d_M_variable_73 (fun H locs hP hD hS => ?_)
        have hP : va_P D cls (mW ma cI cZ 0 (nv + 1) (nb + wd) nt nf na lv nm (updN vw nv wd) tk ta tb tc tw fk fa fb od sd aa am vl ho) H := hP
        have hD : va_D A (mW ma cI cZ 0 (nv + 1) (nb + wd) nt nf na lv nm (updN vw nv wd) tk ta tb tc tw fk fa fb od sd aa am vl ho) := hD
        refine lv_aload_n hx hb d_M_variable_76 rfl (lv_at hl 0 rfl) ?_
        refine va_get (D := D) (ci := 3) (v := .int (nI (nv + 1))) (C := R_M) (T := F_M) (N := 23) hx hb hts in_M hown hK hP 0 rfl rfl 2 (by decide) (hts _ wd_516) (fun _ h9 => h9) rfl d_M_variable_77 ?_
        refine lv_iconst (v := nI 1) hx hb d_M_variable_80 (by decide) ?_
        refine n_sub hx hb (by omega) d_M_variable_81 ?_
        exact fn_iret hx hb hr hlocks hAe hK hP hD hS (by rw [Nat.add_sub_cancel]) d_M_variable_82
      · exact absurd c_37 (by omega)
  · exact absurd ⟨h1, h4⟩ (jw_f (inI_wd.symm.trans c_11) (by omega))
set_option maxHeartbeats 4000000 in
set_option maxRecDepth 100000 in
theorem c_M_variable_1 (l : Launch) (D : va_G) (ma : Nat → Nat) (cI cZ : ClassId) (th nv nb nt nf na lv nm : Nat) (vw tk ta : Nat → Nat) (tb tc : Nat → Int32) (tw fk fa : Nat → Nat) (fb : Nat → Int32) (od sd aa am vl : Nat → Nat) (ho : Nat → Bool) (hok : Mok nv nb nt nf na lv nm vw tk ta tb tc tw fk fa fb od sd am vl) (x : Int32) (hw : wdB x = false) : Fn l y_M_variable (wk y_M_variable b_M_variable 2 (some .int)) rm_M_variable D cls [(cI, .int), (cZ, .boolean)] [.ref (ma 0), .int x] (mW ma cI cZ th nv nb nt nf na lv nm vw tk ta tb tc tw fk fa fb od sd aa am vl ho) XT (some (.int (nI 0))) (mW ma cI cZ 1 nv nb nt nf na lv nm vw tk ta tb tc tw fk fa fb od sd aa am vl ho) := by
  refine Fn.of (by decide) rfl (Nat.le_of_ble_eq_true rfl) ?_
  intro p e s m below meth c A ls hx hb hml hr hts0 hown hlocks hnm hP hK hD hS hA hAe hX hl
  have hts : ∀ w ∈ lw_ok, w.before _ s = true := fun w h => hts0 w (List.mem_cons_of_mem _ h)
  have hown : s.vm.findClass R_M = some m.cls := hown
  have hP : va_P D cls (mW ma cI cZ th nv nb nt nf na lv nm vw tk ta tb tc tw fk fa fb od sd aa am vl ho) s.heap := hP
  have hl : lv_has ls 2 [(0, .ref (ma 0)), (1, .int x)] := hl
  obtain ⟨o_nv, o_nb, o_nt, o_nf, o_na, o_lv, o_nm, o_vw, o_tw, o_am, o_sd, o_T, o_F, o_od, o_vl⟩ := id hok
  refine lv_aload_n hx hb d_M_variable_0 rfl (lv_at hl 0 rfl) ?_
  refine lv_iconst (v := nI 0) hx hb d_M_variable_1 (by decide) ?_
  refine va_put (D := D) (ci := 3) (v := .int (nI 0)) (ty := .int) (C := R_M) (T := F_M) (N := 23) hx hb hts in_M t_M tok_M nm_M hown hK hP hD hS 0 rfl rfl 0 (by decide) (hts _ wd_514) (fun _ h9 => h9) rfl (by decide +kernel) rfl rfl (Nat.le_of_ble_eq_true rfl) d_M_variable_2 (fun H locs hP hD hS => ?_)
  have hP : va_P D cls (mW ma cI cZ 0 nv nb nt nf na lv nm vw tk ta tb tc tw fk fa fb od sd aa am vl ho) H := hP
  have hD : va_D A (mW ma cI cZ 0 nv nb nt nf na lv nm vw tk ta tb tc tw fk fa fb od sd aa am vl ho) := hD
  refine lv_iload_n hx hb d_M_variable_5 rfl (lv_at hl 1 rfl) ?_
  refine lv_iconst (v := nI 1) hx hb d_M_variable_6 (by decide) ?_
  refine lv_iconst (v := nI 4) hx hb d_M_variable_7 (by decide) ?_
  refine fn_S (ws' := (mW ma cI cZ 0 nv nb nt nf na lv nm vw tk ta tb tc tw fk fa fb od sd aa am vl ho)) (w1 := (nilW)) (wc := (nilW)) (wr := [(ma 0, .inr (3, [.int (nI 0), .ref (ma 1), .int (nI nv), .int (nI nb), .ref (ma 2), .ref (ma 3), .ref (ma 4), .ref (ma 5), .ref (ma 6), .int (nI nt), .ref (ma 7), .ref (ma 8), .ref (ma 9), .int (nI nf), .ref (ma 10), .ref (ma 11), .ref (ma 12), .int (nI na), .int (nI lv), .ref (ma 13), .int (nI nm), .ref (ma 14), .ref (ma 15)])), (ma 1, .inl (cI, 6, .inl (fun j => nI (vw j)))), (ma 2, .inl (cI, 50, .inl (fun j => nI (tk j)))), (ma 3, .inl (cI, 50, .inl (fun j => nI (ta j)))), (ma 4, .inl (cI, 50, .inl tb)), (ma 5, .inl (cI, 50, .inl tc)), (ma 6, .inl (cI, 50, .inl (fun j => nI (tw j)))), (ma 7, .inl (cI, 50, .inl (fun j => nI (fk j)))), (ma 8, .inl (cI, 50, .inl (fun j => nI (fa j)))), (ma 9, .inl (cI, 50, .inl fb)), (ma 10, .inl (cI, 100, .inl (fun j => nI (od j)))), (ma 11, .inl (cI, 30, .inl (fun j => nI (sd j)))), (ma 12, .inl (cI, 30, .inl (fun j => nI (aa j)))), (ma 13, .inl (cI, 8, .inl (fun j => nI (am j)))), (ma 14, .inl (cI, 50, .inl (fun j => nI (vl j)))), (ma 15, .inl (cZ, 50, .inl (fun j => bI (ho j))))]) ⟨hx, hb, hml, hown, hts⟩ (c_M_in l D x (nI 1) (nI 4)) ⟨callB_of 3 hts (gW wd_595) rfl rfl rfl (hts _ wd_4) (hts _ wd_593) hd_M_in ⟨Nat.le_of_ble_eq_true rfl, Nat.le_of_ble_eq_true rfl⟩, hts _ wd_594⟩ XT_ok (fun _ _ _ => trivial) hK hP hD hS hA [] [] [0, 1, 2, 3, 4, 5, 6, 7, 8, 9, 10, 11, 12, 13, 14, 15] [0, 1, 2, 3, 4, 5, 6, 7, 8, 9, 10, 11, 12, 13, 14, 15] rfl rfl rfl rfl rfl (by decide) rfl rfl rfl hl.1 rfl (Nat.le_of_ble_eq_true rfl) d_M_variable_8 ⟨Nat.zero_le _, Nat.zero_le _⟩ (st1 := [.int (bI (inI x (nI 1) (nI 4)))]) rfl (fun H locs hP hD hS => ?_)
  refine b_if_ne (tgt := 20) hx hb d_M_variable_11 (by decide) (fun c_11 => ?_) (fun c_11 => ?_)
  · exact absurd (inI_wd.symm.trans c_11) (by rw [hw]; decide)
  · refine lv_aload_n hx hb d_M_variable_14 rfl (lv_at hl 0 rfl) ?_
    refine lv_iconst (v := nI 1) hx hb d_M_variable_15 (by decide) ?_
    refine fn_V (ws' := (mW ma cI cZ 1 nv nb nt nf na lv nm vw tk ta tb tc tw fk fa fb od sd aa am vl ho)) (w1 := (mW ma cI cZ 1 nv nb nt nf na lv nm vw tk ta tb tc tw fk fa fb od sd aa am vl ho)) (wc := (mW ma cI cZ 0 nv nb nt nf na lv nm vw tk ta tb tc tw fk fa fb od sd aa am vl ho)) (wr := []) ⟨hx, hb, hml, hown, hts⟩ (c_M_raise l D ma cI cZ 0 nv nb nt nf na lv nm vw tk ta tb tc tw fk fa fb od sd aa am vl ho hok 1) ⟨callB_of 1 hts (gW wd_599) rfl rfl rfl (hts _ wd_4) (hts _ wd_596) hd_M_raise ⟨Nat.le_of_ble_eq_true rfl, Nat.le_of_ble_eq_true rfl⟩, hts _ wd_598, hts _ wd_p22⟩ XT_ok (fun _ _ _ => trivial) hK hP hD hS hA 0 3 rfl rfl rfl [0, 1] [0, 1, 2, 3, 4, 5, 6, 7, 8, 9, 10, 11, 12, 13, 14, 15] [] [0, 1, 2, 3, 4, 5, 6, 7, 8, 9, 10, 11, 12, 13, 14, 15] rfl rfl rfl rfl rfl (by decide) rfl rfl rfl hl.1 rfl (Nat.le_of_ble_eq_true rfl) d_M_variable_16 ⟨Nat.zero_le _, Nat.zero_le _⟩ (st1 := [.int (nI 0)]) rfl (fun H locs hP hD hS => ?_)
    exact fn_iret hx hb hr hlocks hAe hK hP hD hS rfl d_M_variable_19
set_option maxHeartbeats 4000000 in
set_option maxRecDepth 100000 in
theorem c_M_variable_2 (l : Launch) (D : va_G) (ma : Nat → Nat) (cI cZ : ClassId) (th nv nb nt nf na lv nm : Nat) (vw tk ta : Nat → Nat) (tb tc : Nat → Int32) (tw fk fa : Nat → Nat) (fb : Nat → Int32) (od sd aa am vl : Nat → Nat) (ho : Nat → Bool) (hok : Mok nv nb nt nf na lv nm vw tk ta tb tc tw fk fa fb od sd am vl) (wd : Nat) (h1 : 1 ≤ wd) (h4 : wd ≤ 4) (hn : 6 ≤ nv ∨ 10 < nb + wd) : Fn l y_M_variable (wk y_M_variable b_M_variable 2 (some .int)) rm_M_variable D cls [(cI, .int), (cZ, .boolean)] [.ref (ma 0), .int (nI wd)] (mW ma cI cZ th nv nb nt nf na lv nm vw tk ta tb tc tw fk fa fb od sd aa am vl ho) XT (some (.int (nI 0))) (mW ma cI cZ 2 nv nb nt nf na lv nm vw tk ta tb tc tw fk fa fb od sd aa am vl ho) := by
  refine Fn.of (by decide) rfl (Nat.le_of_ble_eq_true rfl) ?_
  intro p e s m below meth c A ls hx hb hml hr hts0 hown hlocks hnm hP hK hD hS hA hAe hX hl
  have hts : ∀ w ∈ lw_ok, w.before _ s = true := fun w h => hts0 w (List.mem_cons_of_mem _ h)
  have hown : s.vm.findClass R_M = some m.cls := hown
  have hP : va_P D cls (mW ma cI cZ th nv nb nt nf na lv nm vw tk ta tb tc tw fk fa fb od sd aa am vl ho) s.heap := hP
  have hl : lv_has ls 2 [(0, .ref (ma 0)), (1, .int (nI wd))] := hl
  obtain ⟨o_nv, o_nb, o_nt, o_nf, o_na, o_lv, o_nm, o_vw, o_tw, o_am, o_sd, o_T, o_F, o_od, o_vl⟩ := id hok
  refine lv_aload_n hx hb d_M_variable_0 rfl (lv_at hl 0 rfl) ?_
  refine lv_iconst (v := nI 0) hx hb d_M_variable_1 (by decide) ?_
  refine va_put (D := D) (ci := 3) (v := .int (nI 0)) (ty := .int) (C := R_M) (T := F_M) (N := 23) hx hb hts in_M t_M tok_M nm_M hown hK hP hD hS 0 rfl rfl 0 (by decide) (hts _ wd_514) (fun _ h9 => h9) rfl (by decide +kernel) rfl rfl (Nat.le_of_ble_eq_true rfl) d_M_variable_2 (fun H locs hP hD hS => ?_)
  have hP : va_P D cls (mW ma cI cZ 0 nv nb nt nf na lv nm vw tk ta tb tc tw fk fa fb od sd aa am vl ho) H := hP
  have hD : va_D A (mW ma cI cZ 0 nv nb nt nf na lv nm vw tk ta tb tc tw fk fa fb od sd aa am vl ho) := hD
  refine lv_iload_n hx hb d_M_variable_5 rfl (lv_at hl 1 rfl) ?_
  refine lv_iconst (v := nI 1) hx hb d_M_variable_6 (by decide) ?_
  refine lv_iconst (v := nI 4) hx hb d_M_variable_7 (by decide) ?_
  refine fn_S (ws' := (mW ma cI cZ 0 nv nb nt nf na lv nm vw tk ta tb tc tw fk fa fb od sd aa am vl ho)) (w1 := (nilW)) (wc := (nilW)) (wr := [(ma 0, .inr (3, [.int (nI 0), .ref (ma 1), .int (nI nv), .int (nI nb), .ref (ma 2), .ref (ma 3), .ref (ma 4), .ref (ma 5), .ref (ma 6), .int (nI nt), .ref (ma 7), .ref (ma 8), .ref (ma 9), .int (nI nf), .ref (ma 10), .ref (ma 11), .ref (ma 12), .int (nI na), .int (nI lv), .ref (ma 13), .int (nI nm), .ref (ma 14), .ref (ma 15)])), (ma 1, .inl (cI, 6, .inl (fun j => nI (vw j)))), (ma 2, .inl (cI, 50, .inl (fun j => nI (tk j)))), (ma 3, .inl (cI, 50, .inl (fun j => nI (ta j)))), (ma 4, .inl (cI, 50, .inl tb)), (ma 5, .inl (cI, 50, .inl tc)), (ma 6, .inl (cI, 50, .inl (fun j => nI (tw j)))), (ma 7, .inl (cI, 50, .inl (fun j => nI (fk j)))), (ma 8, .inl (cI, 50, .inl (fun j => nI (fa j)))), (ma 9, .inl (cI, 50, .inl fb)), (ma 10, .inl (cI, 100, .inl (fun j => nI (od j)))), (ma 11, .inl (cI, 30, .inl (fun j => nI (sd j)))), (ma 12, .inl (cI, 30, .inl (fun j => nI (aa j)))), (ma 13, .inl (cI, 8, .inl (fun j => nI (am j)))), (ma 14, .inl (cI, 50, .inl (fun j => nI (vl j)))), (ma 15, .inl (cZ, 50, .inl (fun j => bI (ho j))))]) ⟨hx, hb, hml, hown, hts⟩ (c_M_in l D (nI wd) (nI 1) (nI 4)) ⟨callB_of 3 hts (gW wd_595) rfl rfl rfl (hts _ wd_4) (hts _ wd_593) hd_M_in ⟨Nat.le_of_ble_eq_true rfl, Nat.le_of_ble_eq_true rfl⟩, hts _ wd_594⟩ XT_ok (fun _ _ _ => trivial) hK hP hD hS hA [] [] [0, 1, 2, 3, 4, 5, 6, 7, 8, 9, 10, 11, 12, 13, 14, 15] [0, 1, 2, 3, 4, 5, 6, 7, 8, 9, 10, 11, 12, 13, 14, 15] rfl rfl rfl rfl rfl (by decide) rfl rfl rfl hl.1 rfl (Nat.le_of_ble_eq_true rfl) d_M_variable_8 ⟨Nat.zero_le _, Nat.zero_le _⟩ (st1 := [.int (bI (inI (nI wd) (nI 1) (nI 4)))]) rfl (fun H locs hP hD hS => ?_)
  refine b_if_ne (tgt := 20) hx hb d_M_variable_11 (by decide) (fun c_11 => ?_) (fun c_11 => ?_)
  · refine lv_aload_n hx hb d_M_variable_20 rfl (lv_at hl 0 rfl) ?_
    refine va_get (D := D) (ci := 3) (v := .int (nI nv)) (C := R_M) (T := F_M) (N := 23) hx hb hts in_M hown hK hP 0 rfl rfl 2 (by decide) (hts _ wd_516) (fun _ h9 => h9) rfl d_M_variable_21 ?_
    refine lv_bipush (v := nI 6) hx hb d_M_variable_24 (by decide) ?_
    refine z_icmp_eq (tgt := 40) hx hb (nI_toInt (by omega)) (nI_toInt (by omega)) d_M_variable_26 (by decide) (fun c_26 => ?_) (fun c_26 => ?_)
    · refine lv_aload_n hx hb d_M_variable_40 rfl (lv_at hl 0 rfl) ?_
      refine lv_iconst (v := nI 2) hx hb d_M_variable_41 (by decide) ?_
      refine fn_V (ws' := (mW ma cI cZ 2 nv nb nt nf na lv nm vw tk ta tb tc tw fk fa fb od sd aa am vl ho)) (w1 := (mW ma cI cZ 2 nv nb nt nf na lv nm vw tk ta tb tc tw fk fa fb od sd aa am vl ho)) (wc := (mW ma cI cZ 0 nv nb nt nf na lv nm vw tk ta tb tc tw fk fa fb od sd aa am vl ho)) (wr := []) ⟨hx, hb, hml, hown, hts⟩ (c_M_raise l D ma cI cZ 0 nv nb nt nf na lv nm vw tk ta tb tc tw fk fa fb od sd aa am vl ho hok 2) ⟨callB_of 1 hts (gW wd_599) rfl rfl rfl (hts _ wd_4) (hts _ wd_596) hd_M_raise ⟨Nat.le_of_ble_eq_true rfl, Nat.le_of_ble_eq_true rfl⟩, hts _ wd_598, hts _ wd_p22⟩ XT_ok (fun _ _ _ => trivial) hK hP hD hS hA 0 3 rfl rfl rfl [0, 1] [0, 1, 2, 3, 4, 5, 6, 7, 8, 9, 10, 11, 12, 13, 14, 15] [] [0, 1, 2, 3, 4, 5, 6, 7, 8, 9, 10, 11, 12, 13, 14, 15] rfl rfl rfl rfl rfl (by decide) rfl rfl rfl hl.1 rfl (Nat.le_of_ble_eq_true rfl) d_M_variable_42 ⟨Nat.zero_le _, Nat.zero_le _⟩ (st1 := [.int (nI 0)]) rfl (fun H locs hP hD hS => ?_)
      exact fn_iret hx hb hr hlocks hAe hK hP hD hS rfl d_M_variable_45
    · refine lv_aload_n hx hb d_M_variable_29 rfl (lv_at hl 0 rfl) ?_
      refine va_get (D := D) (ci := 3) (v := .int (nI nb)) (C := R_M) (T := F_M) (N := 23) hx hb hts in_M hown hK hP 0 rfl rfl 3 (by decide) (hts _ wd_517) (fun _ h9 => h9) rfl d_M_variable_30 ?_
      refine lv_iload_n hx hb d_M_variable_33 rfl (lv_at hl 1 rfl) ?_
      refine n_add hx hb d_M_variable_34 ?_
      refine lv_bipush (v := nI 10) hx hb d_M_variable_35 (by decide) ?_
      refine z_icmp_le (tgt := 46) hx hb (nI_toInt (by omega)) (nI_toInt (by omega)) d_M_variable_37 (by decide) (fun c_37 => ?_) (fun c_37 => ?_)
      · exact absurd c_37 (by omega)
      · refine lv_aload_n hx hb d_M_variable_40 rfl (lv_at hl 0 rfl) ?_
        refine lv_iconst (v := nI 2) hx hb d_M_variable_41 (by decide) ?_
        refine fn_V (ws' := (mW ma cI cZ 2 nv nb nt nf na lv nm vw tk ta tb tc tw fk fa fb od sd aa am vl ho)) (w1 := (mW ma cI cZ 2 nv nb nt nf na lv nm vw tk ta tb tc tw fk fa fb od sd aa am vl ho)) (wc := (mW ma cI cZ 0 nv nb nt nf na lv nm vw tk ta tb tc tw fk fa fb od sd aa am vl ho)) (wr := []) ⟨hx, hb, hml, hown, hts⟩ (c_M_raise l D ma cI cZ 0 nv nb nt nf na lv nm vw tk ta tb tc tw fk fa fb od sd aa am vl ho hok 2) ⟨callB_of 1 hts (gW wd_599) rfl rfl rfl (hts _ wd_4) (hts _ wd_596) hd_M_raise ⟨Nat.le_of_ble_eq_true rfl, Nat.le_of_ble_eq_true rfl⟩, hts _ wd_598, hts _ wd_p22⟩ XT_ok (fun _ _ _ => trivial) hK hP hD hS hA 0 3 rfl rfl rfl [0, 1] [0, 1, 2, 3, 4, 5, 6, 7, 8, 9, 10, 11, 12, 13, 14, 15] [] [0, 1, 2, 3, 4, 5, 6, 7, 8, 9, 10, 11, 12, 13, 14, 15] rfl rfl rfl rfl rfl (by decide) rfl rfl rfl hl.1 rfl (Nat.le_of_ble_eq_true rfl) d_M_variable_42 ⟨Nat.zero_le _, Nat.zero_le _⟩ (st1 := [.int (nI 0)]) rfl (fun H locs hP hD hS => ?_)
        exact fn_iret hx hb hr hlocks hAe hK hP hD hS rfl d_M_variable_45
  · exact absurd ⟨h1, h4⟩ (jw_f (inI_wd.symm.trans c_11) (by omega))
set_option maxHeartbeats 4000000 in
set_option maxRecDepth 100000 in
theorem c_M_isTerm (l : Launch) (D : va_G) (ma : Nat → Nat) (cI cZ : ClassId) (th nv nb nt nf na lv nm : Nat) (vw tk ta : Nat → Nat) (tb tc : Nat → Int32) (tw fk fa : Nat → Nat) (fb : Nat → Int32) (od sd aa am vl : Nat → Nat) (ho : Nat → Bool) (hok : Mok nv nb nt nf na lv nm vw tk ta tb tc tw fk fa fb od sd am vl) (x : Int32) : Fn l y_M_isTerm (wk y_M_isTerm b_M_isTerm 2 (some .boolean)) rm_M_isTerm D cls [(cI, .int), (cZ, .boolean)] [.ref (ma 0), .int x] (mW ma cI cZ th nv nb nt nf na lv nm vw tk ta tb tc tw fk fa fb od sd aa am vl ho) XT (some (.int (bI (hasB x nt)))) (mW ma cI cZ th nv nb nt nf na lv nm vw tk ta tb tc tw fk fa fb od sd aa am vl ho) := by
  refine Fn.of (by decide) rfl (Nat.le_of_ble_eq_true rfl) ?_
  intro p e s m below meth c A ls hx hb hml hr hts0 hown hlocks hnm hP hK hD hS hA hAe hX hl
  have hts : ∀ w ∈ lw_ok, w.before _ s = true := fun w h => hts0 w (List.mem_cons_of_mem _ h)
  have hown : s.vm.findClass R_M = some m.cls := hown
  have hP : va_P D cls (mW ma cI cZ th nv nb nt nf na lv nm vw tk ta tb tc tw fk fa fb od sd aa am vl ho) s.heap := hP
  have hl : lv_has ls 2 [(0, .ref (ma 0)), (1, .int x)] := hl
  obtain ⟨o_nv, o_nb, o_nt, o_nf, o_na, o_lv, o_nm, o_vw, o_tw, o_am, o_sd, o_T, o_F, o_od, o_vl⟩ := id hok
  refine lv_iload_n hx hb d_M_isTerm_0 rfl (lv_at hl 1 rfl) ?_
  refine lv_iconst (v := nI 0) hx hb d_M_isTerm_1 (by decide) ?_
  refine lv_aload_n hx hb d_M_isTerm_2 rfl (lv_at hl 0 rfl) ?_
  refine va_get (D := D) (ci := 3) (v := .int (nI nt)) (C := R_M) (T := F_M) (N := 23) hx hb hts in_M hown hK hP 0 rfl rfl 9 (by decide) (hts _ wd_523) (fun _ h9 => h9) rfl d_M_isTerm_3 ?_
  refine lv_iconst (v := nI 1) hx hb d_M_isTerm_6 (by decide) ?_
  refine lv_isub hx hb d_M_isTerm_7 ?_
  refine fn_S (ws' := (mW ma cI cZ th nv nb nt nf na lv nm vw tk ta tb tc tw fk fa fb od sd aa am vl ho)) (w1 := (nilW)) (wc := (nilW)) (wr := [(ma 0, .inr (3, [.int (nI th), .ref (ma 1), .int (nI nv), .int (nI nb), .ref (ma 2), .ref (ma 3), .ref (ma 4), .ref (ma 5), .ref (ma 6), .int (nI nt), .ref (ma 7), .ref (ma 8), .ref (ma 9), .int (nI nf), .ref (ma 10), .ref (ma 11), .ref (ma 12), .int (nI na), .int (nI lv), .ref (ma 13), .int (nI nm), .ref (ma 14), .ref (ma 15)])), (ma 1, .inl (cI, 6, .inl (fun j => nI (vw j)))), (ma 2, .inl (cI, 50, .inl (fun j => nI (tk j)))), (ma 3, .inl (cI, 50, .inl (fun j => nI (ta j)))), (ma 4, .inl (cI, 50, .inl tb)), (ma 5, .inl (cI, 50, .inl tc)), (ma 6, .inl (cI, 50, .inl (fun j => nI (tw j)))), (ma 7, .inl (cI, 50, .inl (fun j => nI (fk j)))), (ma 8, .inl (cI, 50, .inl (fun j => nI (fa j)))), (ma 9, .inl (cI, 50, .inl fb)), (ma 10, .inl (cI, 100, .inl (fun j => nI (od j)))), (ma 11, .inl (cI, 30, .inl (fun j => nI (sd j)))), (ma 12, .inl (cI, 30, .inl (fun j => nI (aa j)))), (ma 13, .inl (cI, 8, .inl (fun j => nI (am j)))), (ma 14, .inl (cI, 50, .inl (fun j => nI (vl j)))), (ma 15, .inl (cZ, 50, .inl (fun j => bI (ho j))))]) ⟨hx, hb, hml, hown, hts⟩ (c_M_in l D x (nI 0) ((nI nt) - (nI 1))) ⟨callB_of 3 hts (gW wd_595) rfl rfl rfl (hts _ wd_4) (hts _ wd_593) hd_M_in ⟨Nat.le_of_ble_eq_true rfl, Nat.le_of_ble_eq_true rfl⟩, hts _ wd_594⟩ XT_ok (fun _ _ _ => trivial) hK hP hD hS hA [] [] [0, 1, 2, 3, 4, 5, 6, 7, 8, 9, 10, 11, 12, 13, 14, 15] [0, 1, 2, 3, 4, 5, 6, 7, 8, 9, 10, 11, 12, 13, 14, 15] rfl rfl rfl rfl rfl (by decide) rfl rfl rfl hl.1 rfl (Nat.le_of_ble_eq_true rfl) d_M_isTerm_8 ⟨Nat.zero_le _, Nat.zero_le _⟩ (st1 := [.int (bI (inI x (nI 0) ((nI nt) - (nI 1))))]) rfl (fun H locs hP hD hS => ?_)
  exact fn_zret hx hb hr hlocks hAe hK hP hD hS (by rw [inI_has (by omega)]) d_M_isTerm_11
set_option maxHeartbeats 4000000 in
set_option maxRecDepth 100000 in
theorem c_M_isFormula (l : Launch) (D : va_G) (ma : Nat → Nat) (cI cZ : ClassId) (th nv nb nt nf na lv nm : Nat) (vw tk ta : Nat → Nat) (tb tc : Nat → Int32) (tw fk fa : Nat → Nat) (fb : Nat → Int32) (od sd aa am vl : Nat → Nat) (ho : Nat → Bool) (hok : Mok nv nb nt nf na lv nm vw tk ta tb tc tw fk fa fb od sd am vl) (x : Int32) : Fn l y_M_isFormula (wk y_M_isFormula b_M_isFormula 2 (some .boolean)) rm_M_isFormula D cls [(cI, .int), (cZ, .boolean)] [.ref (ma 0), .int x] (mW ma cI cZ th nv nb nt nf na lv nm vw tk ta tb tc tw fk fa fb od sd aa am vl ho) XT (some (.int (bI (hasB x nf)))) (mW ma cI cZ th nv nb nt nf na lv nm vw tk ta tb tc tw fk fa fb od sd aa am vl ho) := by
  refine Fn.of (by decide) rfl (Nat.le_of_ble_eq_true rfl) ?_
  intro p e s m below meth c A ls hx hb hml hr hts0 hown hlocks hnm hP hK hD hS hA hAe hX hl
  have hts : ∀ w ∈ lw_ok, w.before _ s = true := fun w h => hts0 w (List.mem_cons_of_mem _ h)
  have hown : s.vm.findClass R_M = some m.cls := hown
  have hP : va_P D cls (mW ma cI cZ th nv nb nt nf na lv nm vw tk ta tb tc tw fk fa fb od sd aa am vl ho) s.heap := hP
  have hl : lv_has ls 2 [(0, .ref (ma 0)), (1, .int x)] := hl
  obtain ⟨o_nv, o_nb, o_nt, o_nf, o_na, o_lv, o_nm, o_vw, o_tw, o_am, o_sd, o_T, o_F, o_od, o_vl⟩ := id hok
  refine lv_iload_n hx hb d_M_isFormula_0 rfl (lv_at hl 1 rfl) ?_
  refine lv_iconst (v := nI 0) hx hb d_M_isFormula_1 (by decide) ?_
  refine lv_aload_n hx hb d_M_isFormula_2 rfl (lv_at hl 0 rfl) ?_
  refine va_get (D := D) (ci := 3) (v := .int (nI nf)) (C := R_M) (T := F_M) (N := 23) hx hb hts in_M hown hK hP 0 rfl rfl 13 (by decide) (hts _ wd_527) (fun _ h9 => h9) rfl d_M_isFormula_3 ?_
  refine lv_iconst (v := nI 1) hx hb d_M_isFormula_6 (by decide) ?_
  refine lv_isub hx hb d_M_isFormula_7 ?_
  refine fn_S (ws' := (mW ma cI cZ th nv nb nt nf na lv nm vw tk ta tb tc tw fk fa fb od sd aa am vl ho)) (w1 := (nilW)) (wc := (nilW)) (wr := [(ma 0, .inr (3, [.int (nI th), .ref (ma 1), .int (nI nv), .int (nI nb), .ref (ma 2), .ref (ma 3), .ref (ma 4), .ref (ma 5), .ref (ma 6), .int (nI nt), .ref (ma 7), .ref (ma 8), .ref (ma 9), .int (nI nf), .ref (ma 10), .ref (ma 11), .ref (ma 12), .int (nI na), .int (nI lv), .ref (ma 13), .int (nI nm), .ref (ma 14), .ref (ma 15)])), (ma 1, .inl (cI, 6, .inl (fun j => nI (vw j)))), (ma 2, .inl (cI, 50, .inl (fun j => nI (tk j)))), (ma 3, .inl (cI, 50, .inl (fun j => nI (ta j)))), (ma 4, .inl (cI, 50, .inl tb)), (ma 5, .inl (cI, 50, .inl tc)), (ma 6, .inl (cI, 50, .inl (fun j => nI (tw j)))), (ma 7, .inl (cI, 50, .inl (fun j => nI (fk j)))), (ma 8, .inl (cI, 50, .inl (fun j => nI (fa j)))), (ma 9, .inl (cI, 50, .inl fb)), (ma 10, .inl (cI, 100, .inl (fun j => nI (od j)))), (ma 11, .inl (cI, 30, .inl (fun j => nI (sd j)))), (ma 12, .inl (cI, 30, .inl (fun j => nI (aa j)))), (ma 13, .inl (cI, 8, .inl (fun j => nI (am j)))), (ma 14, .inl (cI, 50, .inl (fun j => nI (vl j)))), (ma 15, .inl (cZ, 50, .inl (fun j => bI (ho j))))]) ⟨hx, hb, hml, hown, hts⟩ (c_M_in l D x (nI 0) ((nI nf) - (nI 1))) ⟨callB_of 3 hts (gW wd_595) rfl rfl rfl (hts _ wd_4) (hts _ wd_593) hd_M_in ⟨Nat.le_of_ble_eq_true rfl, Nat.le_of_ble_eq_true rfl⟩, hts _ wd_594⟩ XT_ok (fun _ _ _ => trivial) hK hP hD hS hA [] [] [0, 1, 2, 3, 4, 5, 6, 7, 8, 9, 10, 11, 12, 13, 14, 15] [0, 1, 2, 3, 4, 5, 6, 7, 8, 9, 10, 11, 12, 13, 14, 15] rfl rfl rfl rfl rfl (by decide) rfl rfl rfl hl.1 rfl (Nat.le_of_ble_eq_true rfl) d_M_isFormula_8 ⟨Nat.zero_le _, Nat.zero_le _⟩ (st1 := [.int (bI (inI x (nI 0) ((nI nf) - (nI 1))))]) rfl (fun H locs hP hD hS => ?_)
  exact fn_zret hx hb hr hlocks hAe hK hP hD hS (by rw [inI_has (by omega)]) d_M_isFormula_11
set_option maxHeartbeats 4000000 in
set_option maxRecDepth 100000 in
theorem c_M_alike (l : Launch) (D : va_G) (ma : Nat → Nat) (cI cZ : ClassId) (th nv nb nt nf na lv nm : Nat) (vw tk ta : Nat → Nat) (tb tc : Nat → Int32) (tw fk fa : Nat → Nat) (fb : Nat → Int32) (od sd aa am vl : Nat → Nat) (ho : Nat → Bool) (hok : Mok nv nb nt nf na lv nm vw tk ta tb tc tw fk fa fb od sd am vl) (x y : Int32) : Fn l y_M_alike (wk y_M_alike b_M_alike 3 (some .boolean)) rm_M_alike D cls [(cI, .int), (cZ, .boolean)] [.ref (ma 0), .int x, .int y] (mW ma cI cZ th nv nb nt nf na lv nm vw tk ta tb tc tw fk fa fb od sd aa am vl ho) XT (some (.int (bI (alB nt tw x y)))) (mW ma cI cZ th nv nb nt nf na lv nm vw tk ta tb tc tw fk fa fb od sd aa am vl ho) := by
  refine Fn.of (by decide) rfl (Nat.le_of_ble_eq_true rfl) ?_
  intro p e s m below meth c A ls hx hb hml hr hts0 hown hlocks hnm hP hK hD hS hA hAe hX hl
  have hts : ∀ w ∈ lw_ok, w.before _ s = true := fun w h => hts0 w (List.mem_cons_of_mem _ h)
  have hown : s.vm.findClass R_M = some m.cls := hown
  have hP : va_P D cls (mW ma cI cZ th nv nb nt nf na lv nm vw tk ta tb tc tw fk fa fb od sd aa am vl ho) s.heap := hP
  have hl : lv_has ls 3 [(0, .ref (ma 0)), (1, .int x), (2, .int y)] := hl
  obtain ⟨o_nv, o_nb, o_nt, o_nf, o_na, o_lv, o_nm, o_vw, o_tw, o_am, o_sd, o_T, o_F, o_od, o_vl⟩ := id hok
  refine lv_aload_n hx hb d_M_alike_0 rfl (lv_at hl 0 rfl) ?_
  refine lv_iload_n hx hb d_M_alike_1 rfl (lv_at hl 1 rfl) ?_
  refine fn_V (ws' := (mW ma cI cZ th nv nb nt nf na lv nm vw tk ta tb tc tw fk fa fb od sd aa am vl ho)) (w1 := (mW ma cI cZ th nv nb nt nf na lv nm vw tk ta tb tc tw fk fa fb od sd aa am vl ho)) (wc := (mW ma cI cZ th nv nb nt nf na lv nm vw tk ta tb tc tw fk fa fb od sd aa am vl ho)) (wr := []) ⟨hx, hb, hml, hown, hts⟩ (c_M_isTerm l D ma cI cZ th nv nb nt nf na lv nm vw tk ta tb tc tw fk fa fb od sd aa am vl ho hok x) ⟨callB_of 1 hts (gW wd_615) rfl rfl rfl (hts _ wd_4) (hts _ wd_612) hd_M_isTerm ⟨Nat.le_of_ble_eq_true rfl, Nat.le_of_ble_eq_true rfl⟩, hts _ wd_614, hts _ wd_p25⟩ XT_ok (fun _ _ _ => trivial) hK hP hD hS hA 0 3 rfl rfl rfl [0, 1] [0, 1, 2, 3, 4, 5, 6, 7, 8, 9, 10, 11, 12, 13, 14, 15] [] [0, 1, 2, 3, 4, 5, 6, 7, 8, 9, 10, 11, 12, 13, 14, 15] rfl rfl rfl rfl rfl (by decide) rfl rfl rfl hl.1 rfl (Nat.le_of_ble_eq_true rfl) d_M_alike_2 ⟨Nat.zero_le _, Nat.zero_le _⟩ (st1 := [.int (bI (hasB x nt))]) rfl (fun H locs hP hD hS => ?_)
  refine b_if_eq (tgt := 35) hx hb d_M_alike_5 (by decide) (fun c_5 => ?_) (fun c_5 => ?_)
  · refine lv_iconst (v := nI 0) hx hb d_M_alike_35 (by decide) ?_
    exact fn_zret hx hb hr hlocks hAe hK hP hD hS (by rw [alB_f1 c_5]; rfl) d_M_alike_36
  · refine lv_aload_n hx hb d_M_alike_8 rfl (lv_at hl 0 rfl) ?_
    refine lv_iload_n hx hb d_M_alike_9 rfl (lv_at hl 2 rfl) ?_
    refine fn_V (ws' := (mW ma cI cZ th nv nb nt nf na lv nm vw tk ta tb tc tw fk fa fb od sd aa am vl ho)) (w1 := (mW ma cI cZ th nv nb nt nf na lv nm vw tk ta tb tc tw fk fa fb od sd aa am vl ho)) (wc := (mW ma cI cZ th nv nb nt nf na lv nm vw tk ta tb tc tw fk fa fb od sd aa am vl ho)) (wr := []) ⟨hx, hb, hml, hown, hts⟩ (c_M_isTerm l D ma cI cZ th nv nb nt nf na lv nm vw tk ta tb tc tw fk fa fb od sd aa am vl ho hok y) ⟨callB_of 1 hts (gW wd_615) rfl rfl rfl (hts _ wd_4) (hts _ wd_612) hd_M_isTerm ⟨Nat.le_of_ble_eq_true rfl, Nat.le_of_ble_eq_true rfl⟩, hts _ wd_614, hts _ wd_p25⟩ XT_ok (fun _ _ _ => trivial) hK hP hD hS hA 0 3 rfl rfl rfl [0, 1] [0, 1, 2, 3, 4, 5, 6, 7, 8, 9, 10, 11, 12, 13, 14, 15] [] [0, 1, 2, 3, 4, 5, 6, 7, 8, 9, 10, 11, 12, 13, 14, 15] rfl rfl rfl rfl rfl (by decide) rfl rfl rfl hl.1 rfl (Nat.le_of_ble_eq_true rfl) d_M_alike_10 ⟨Nat.zero_le _, Nat.zero_le _⟩ (st1 := [.int (bI (hasB y nt))]) rfl (fun H locs hP hD hS => ?_)
    refine b_if_eq (tgt := 35) hx hb d_M_alike_13 (by decide) (fun c_13 => ?_) (fun c_13 => ?_)
    · refine lv_iconst (v := nI 0) hx hb d_M_alike_35 (by decide) ?_
      exact fn_zret hx hb hr hlocks hAe hK hP hD hS (by rw [alB_f2 c_13]; rfl) d_M_alike_36
    · obtain ⟨i, hi, rfl⟩ := hasB_nat c_5
      obtain ⟨j, hj, rfl⟩ := hasB_nat c_13
      have oi := o_tw i hi
      have oj := o_tw j hj
      refine lv_aload_n hx hb d_M_alike_16 rfl (lv_at hl 0 rfl) ?_
      refine va_get (D := D) (ci := 3) (v := .ref (ma 6)) (C := R_M) (T := F_M) (N := 23) hx hb hts in_M hown hK hP 0 rfl rfl 8 (by decide) (hts _ wd_522) (fun _ h9 => h9) rfl d_M_alike_17 ?_
      refine lv_iload_n hx hb d_M_alike_20 rfl (lv_at hl 1 rfl) ?_
      refine n_iald hx hb hK hP 6 0 rfl rfl (i := i) (by omega) (by omega) d_M_alike_21 ?_
      refine lv_aload_n hx hb d_M_alike_22 rfl (lv_at hl 0 rfl) ?_
      refine va_get (D := D) (ci := 3) (v := .ref (ma 6)) (C := R_M) (T := F_M) (N := 23) hx hb hts in_M hown hK hP 0 rfl rfl 8 (by decide) (hts _ wd_522) (fun _ h9 => h9) rfl d_M_alike_23 ?_
      refine lv_iload_n hx hb d_M_alike_26 rfl (lv_at hl 2 rfl) ?_
      refine n_iald hx hb hK hP 6 0 rfl rfl (i := j) (by omega) (by omega) d_M_alike_27 ?_
      refine z_icmp_ne (tgt := 35) hx hb (nI_toInt (by omega)) (nI_toInt (by omega)) d_M_alike_28 (by decide) (fun c_28 => ?_) (fun c_28 => ?_)
      · refine lv_iconst (v := nI 0) hx hb d_M_alike_35 (by decide) ?_
        exact fn_zret hx hb hr hlocks hAe hK hP hD hS (by rw [alB_I hi hj (by omega) (by omega), decide_eq_false (by omega)]; rfl) d_M_alike_36
      · refine lv_iconst (v := nI 1) hx hb d_M_alike_31 (by decide) ?_
        refine lv_goto (tgt := 36) hx hb d_M_alike_32 (by decide) ?_
        exact fn_zret hx hb hr hlocks hAe hK hP hD hS (by rw [alB_I hi hj (by omega) (by omega), decide_eq_true (by omega)]; rfl) d_M_alike_36
set_option maxHeartbeats 4000000 in
set_option maxRecDepth 100000 in
theorem c_M_widthOf_0 (l : Launch) (D : va_G) (ma : Nat → Nat) (cI cZ : ClassId) (th nv nb nt nf na lv nm : Nat) (vw tk ta : Nat → Nat) (tb tc : Nat → Int32) (tw fk fa : Nat → Nat) (fb : Nat → Int32) (od sd aa am vl : Nat → Nat) (ho : Nat → Bool) (hok : Mok nv nb nt nf na lv nm vw tk ta tb tc tw fk fa fb od sd am vl) (ka kb kc : Int32) : Fn l y_M_widthOf (wk y_M_widthOf b_M_widthOf 5 (some .int)) rm_M_widthOf D cls [(cI, .int), (cZ, .boolean)] [.ref (ma 0), .int (nI 0), .int ka, .int kb, .int kc] (mW ma cI cZ th nv nb nt nf na lv nm vw tk ta tb tc tw fk fa fb od sd aa am vl ho) XT (some (.int (nI (pWk nv nt nf vw tw 0 ka kb kc)))) (mW ma cI cZ th nv nb nt nf na lv nm vw tk ta tb tc tw fk fa fb od sd aa am vl ho) := by
  refine Fn.of (by decide) rfl (Nat.le_of_ble_eq_true rfl) ?_
  intro p e s m below meth c A ls hx hb hml hr hts0 hown hlocks hnm hP hK hD hS hA hAe hX hl
  have hts : ∀ w ∈ lw_ok, w.before _ s = true := fun w h => hts0 w (List.mem_cons_of_mem _ h)
  have hown : s.vm.findClass R_M = some m.cls := hown
  have hP : va_P D cls (mW ma cI cZ th nv nb nt nf na lv nm vw tk ta tb tc tw fk fa fb od sd aa am vl ho) s.heap := hP
  have hl : lv_has ls 5 [(0, .ref (ma 0)), (1, .int (nI 0)), (2, .int ka), (3, .int kb), (4, .int kc)] := hl
  obtain ⟨o_nv, o_nb, o_nt, o_nf, o_na, o_lv, o_nm, o_vw, o_tw, o_am, o_sd, o_T, o_F, o_od, o_vl⟩ := id hok
  refine lv_iload_n hx hb d_M_widthOf_0 rfl (lv_at hl 1 rfl) ?_
  refine lv_tableIn (tgt := 76) (off := 75) hx hb d_M_widthOf_1 (by decide +kernel) (by decide +kernel) (by decide +kernel) (by decide) ?_
  refine lv_iload_n hx hb d_M_widthOf_76 rfl (lv_at hl 3 rfl) ?_
  refine lv_iconst (v := nI 1) hx hb d_M_widthOf_77 (by decide) ?_
  refine lv_iconst (v := nI 4) hx hb d_M_widthOf_78 (by decide) ?_
  refine fn_S (ws' := (mW ma cI cZ th nv nb nt nf na lv nm vw tk ta tb tc tw fk fa fb od sd aa am vl ho)) (w1 := (nilW)) (wc := (nilW)) (wr := [(ma 0, .inr (3, [.int (nI th), .ref (ma 1), .int (nI nv), .int (nI nb), .ref (ma 2), .ref (ma 3), .ref (ma 4), .ref (ma 5), .ref (ma 6), .int (nI nt), .ref (ma 7), .ref (ma 8), .ref (ma 9), .int (nI nf), .ref (ma 10), .ref (ma 11), .ref (ma 12), .int (nI na), .int (nI lv), .ref (ma 13), .int (nI nm), .ref (ma 14), .ref (ma 15)])), (ma 1, .inl (cI, 6, .inl (fun j => nI (vw j)))), (ma 2, .inl (cI, 50, .inl (fun j => nI (tk j)))), (ma 3, .inl (cI, 50, .inl (fun j => nI (ta j)))), (ma 4, .inl (cI, 50, .inl tb)), (ma 5, .inl (cI, 50, .inl tc)), (ma 6, .inl (cI, 50, .inl (fun j => nI (tw j)))), (ma 7, .inl (cI, 50, .inl (fun j => nI (fk j)))), (ma 8, .inl (cI, 50, .inl (fun j => nI (fa j)))), (ma 9, .inl (cI, 50, .inl fb)), (ma 10, .inl (cI, 100, .inl (fun j => nI (od j)))), (ma 11, .inl (cI, 30, .inl (fun j => nI (sd j)))), (ma 12, .inl (cI, 30, .inl (fun j => nI (aa j)))), (ma 13, .inl (cI, 8, .inl (fun j => nI (am j)))), (ma 14, .inl (cI, 50, .inl (fun j => nI (vl j)))), (ma 15, .inl (cZ, 50, .inl (fun j => bI (ho j))))]) ⟨hx, hb, hml, hown, hts⟩ (c_M_in l D kb (nI 1) (nI 4)) ⟨callB_of 3 hts (gW wd_595) rfl rfl rfl (hts _ wd_4) (hts _ wd_593) hd_M_in ⟨Nat.le_of_ble_eq_true rfl, Nat.le_of_ble_eq_true rfl⟩, hts _ wd_594⟩ XT_ok (fun _ _ _ => trivial) hK hP hD hS hA [] [] [0, 1, 2, 3, 4, 5, 6, 7, 8, 9, 10, 11, 12, 13, 14, 15] [0, 1, 2, 3, 4, 5, 6, 7, 8, 9, 10, 11, 12, 13, 14, 15] rfl rfl rfl rfl rfl (by decide) rfl rfl rfl hl.1 rfl (Nat.le_of_ble_eq_true rfl) d_M_widthOf_79 ⟨Nat.zero_le _, Nat.zero_le _⟩ (st1 := [.int (bI (inI kb (nI 1) (nI 4)))]) rfl (fun H locs hP hD hS => ?_)
  refine b_if_eq (tgt := 100) hx hb d_M_widthOf_82 (by decide) (fun c_82 => ?_) (fun c_82 => ?_)
  · rw [inI_wd] at c_82
    refine lv_iconst (v := nI 0) hx hb d_M_widthOf_100 (by decide) ?_
    exact fn_iret hx hb hr hlocks hAe hK hP hD hS (congrArg nI (pW0_w c_82).symm) d_M_widthOf_101
  · rw [inI_wd] at c_82
    obtain ⟨j, hj1, hj4, rfl⟩ := wdB_nat c_82
    have o2 : 2 ^ j ≤ 16 := Nat.pow_le_pow_right (by decide) hj4
    refine lv_iload_n hx hb d_M_widthOf_85 rfl (lv_at hl 2 rfl) ?_
    refine z_if_lt (tgt := 100) hx hb rfl d_M_widthOf_86 (by decide) (fun c_86 => ?_) (fun c_86 => ?_)
    · refine lv_iconst (v := nI 0) hx hb d_M_widthOf_100 (by decide) ?_
      exact fn_iret hx hb hr hlocks hAe hK hP hD hS (congrArg nI (pW0_f hj4 (by omega)).symm) d_M_widthOf_101
    · refine lv_iload_n hx hb d_M_widthOf_89 rfl (lv_at hl 2 rfl) ?_
      refine lv_iconst (v := nI 1) hx hb d_M_widthOf_90 (by decide) ?_
      refine lv_iload_n hx hb d_M_widthOf_91 rfl (lv_at hl 3 rfl) ?_
      refine n_shl1 hx hb (by omega) d_M_widthOf_92 ?_
      refine z_icmp_ge (tgt := 100) hx hb rfl (nI_toInt (by omega)) d_M_widthOf_93 (by decide) (fun c_93 => ?_) (fun c_93 => ?_)
      · refine lv_iconst (v := nI 0) hx hb d_M_widthOf_100 (by decide) ?_
        exact fn_iret hx hb hr hlocks hAe hK hP hD hS (congrArg nI (pW0_f hj4 (by omega)).symm) d_M_widthOf_101
      · refine lv_iload_n hx hb d_M_widthOf_96 rfl (lv_at hl 3 rfl) ?_
        refine lv_goto (tgt := 101) hx hb d_M_widthOf_97 (by decide) ?_
        exact fn_iret hx hb hr hlocks hAe hK hP hD hS (congrArg nI (pW0_t hj1 hj4 (by omega) (by omega)).symm) d_M_widthOf_101
set_option maxHeartbeats 4000000 in
set_option maxRecDepth 100000 in
theorem c_M_widthOf_1 (l : Launch) (D : va_G) (ma : Nat → Nat) (cI cZ : ClassId) (th nv nb nt nf na lv nm : Nat) (vw tk ta : Nat → Nat) (tb tc : Nat → Int32) (tw fk fa : Nat → Nat) (fb : Nat → Int32) (od sd aa am vl : Nat → Nat) (ho : Nat → Bool) (hok : Mok nv nb nt nf na lv nm vw tk ta tb tc tw fk fa fb od sd am vl) (ka kb kc : Int32) : Fn l y_M_widthOf (wk y_M_widthOf b_M_widthOf 5 (some .int)) rm_M_widthOf D cls [(cI, .int), (cZ, .boolean)] [.ref (ma 0), .int (nI 1), .int ka, .int kb, .int kc] (mW ma cI cZ th nv nb nt nf na lv nm vw tk ta tb tc tw fk fa fb od sd aa am vl ho) XT (some (.int (nI (pWk nv nt nf vw tw 1 ka kb kc)))) (mW ma cI cZ th nv nb nt nf na lv nm vw tk ta tb tc tw fk fa fb od sd aa am vl ho) := by
  refine Fn.of (by decide) rfl (Nat.le_of_ble_eq_true rfl) ?_
  intro p e s m below meth c A ls hx hb hml hr hts0 hown hlocks hnm hP hK hD hS hA hAe hX hl
  have hts : ∀ w ∈ lw_ok, w.before _ s = true := fun w h => hts0 w (List.mem_cons_of_mem _ h)
  have hown : s.vm.findClass R_M = some m.cls := hown
  have hP : va_P D cls (mW ma cI cZ th nv nb nt nf na lv nm vw tk ta tb tc tw fk fa fb od sd aa am vl ho) s.heap := hP
  have hl : lv_has ls 5 [(0, .ref (ma 0)), (1, .int (nI 1)), (2, .int ka), (3, .int kb), (4, .int kc)] := hl
  obtain ⟨o_nv, o_nb, o_nt, o_nf, o_na, o_lv, o_nm, o_vw, o_tw, o_am, o_sd, o_T, o_F, o_od, o_vl⟩ := id hok
  refine lv_iload_n hx hb d_M_widthOf_0 rfl (lv_at hl 1 rfl) ?_
  refine lv_tableIn (tgt := 102) (off := 101) hx hb d_M_widthOf_1 (by decide +kernel) (by decide +kernel) (by decide +kernel) (by decide) ?_
  refine lv_iload_n hx hb d_M_widthOf_102 rfl (lv_at hl 2 rfl) ?_
  refine lv_iconst (v := nI 0) hx hb d_M_widthOf_103 (by decide) ?_
  refine lv_aload_n hx hb d_M_widthOf_104 rfl (lv_at hl 0 rfl) ?_
  refine va_get (D := D) (ci := 3) (v := .int (nI nv)) (C := R_M) (T := F_M) (N := 23) hx hb hts in_M hown hK hP 0 rfl rfl 2 (by decide) (hts _ wd_516) (fun _ h9 => h9) rfl d_M_widthOf_105 ?_
  refine lv_iconst (v := nI 1) hx hb d_M_widthOf_108 (by decide) ?_
  refine lv_isub hx hb d_M_widthOf_109 ?_
  refine fn_S (ws' := (mW ma cI cZ th nv nb nt nf na lv nm vw tk ta tb tc tw fk fa fb od sd aa am vl ho)) (w1 := (nilW)) (wc := (nilW)) (wr := [(ma 0, .inr (3, [.int (nI th), .ref (ma 1), .int (nI nv), .int (nI nb), .ref (ma 2), .ref (ma 3), .ref (ma 4), .ref (ma 5), .ref (ma 6), .int (nI nt), .ref (ma 7), .ref (ma 8), .ref (ma 9), .int (nI nf), .ref (ma 10), .ref (ma 11), .ref (ma 12), .int (nI na), .int (nI lv), .ref (ma 13), .int (nI nm), .ref (ma 14), .ref (ma 15)])), (ma 1, .inl (cI, 6, .inl (fun j => nI (vw j)))), (ma 2, .inl (cI, 50, .inl (fun j => nI (tk j)))), (ma 3, .inl (cI, 50, .inl (fun j => nI (ta j)))), (ma 4, .inl (cI, 50, .inl tb)), (ma 5, .inl (cI, 50, .inl tc)), (ma 6, .inl (cI, 50, .inl (fun j => nI (tw j)))), (ma 7, .inl (cI, 50, .inl (fun j => nI (fk j)))), (ma 8, .inl (cI, 50, .inl (fun j => nI (fa j)))), (ma 9, .inl (cI, 50, .inl fb)), (ma 10, .inl (cI, 100, .inl (fun j => nI (od j)))), (ma 11, .inl (cI, 30, .inl (fun j => nI (sd j)))), (ma 12, .inl (cI, 30, .inl (fun j => nI (aa j)))), (ma 13, .inl (cI, 8, .inl (fun j => nI (am j)))), (ma 14, .inl (cI, 50, .inl (fun j => nI (vl j)))), (ma 15, .inl (cZ, 50, .inl (fun j => bI (ho j))))]) ⟨hx, hb, hml, hown, hts⟩ (c_M_in l D ka (nI 0) ((nI nv) - (nI 1))) ⟨callB_of 3 hts (gW wd_595) rfl rfl rfl (hts _ wd_4) (hts _ wd_593) hd_M_in ⟨Nat.le_of_ble_eq_true rfl, Nat.le_of_ble_eq_true rfl⟩, hts _ wd_594⟩ XT_ok (fun _ _ _ => trivial) hK hP hD hS hA [] [] [0, 1, 2, 3, 4, 5, 6, 7, 8, 9, 10, 11, 12, 13, 14, 15] [0, 1, 2, 3, 4, 5, 6, 7, 8, 9, 10, 11, 12, 13, 14, 15] rfl rfl rfl rfl rfl (by decide) rfl rfl rfl hl.1 rfl (Nat.le_of_ble_eq_true rfl) d_M_widthOf_110 ⟨Nat.zero_le _, Nat.zero_le _⟩ (st1 := [.int (bI (inI ka (nI 0) ((nI nv) - (nI 1))))]) rfl (fun H locs hP hD hS => ?_)
  refine b_if_eq (tgt := 125) hx hb d_M_widthOf_113 (by decide) (fun c_113 => ?_) (fun c_113 => ?_)
  · rw [inI_has (by omega)] at c_113
    refine lv_iconst (v := nI 0) hx hb d_M_widthOf_125 (by decide) ?_
    exact fn_iret hx hb hr hlocks hAe hK hP hD hS (congrArg nI (pW1_f c_113).symm) d_M_widthOf_126
  · rw [inI_has (by omega)] at c_113
    obtain ⟨j, hj, rfl⟩ := hasB_nat c_113
    refine lv_aload_n hx hb d_M_widthOf_116 rfl (lv_at hl 0 rfl) ?_
    refine va_get (D := D) (ci := 3) (v := .ref (ma 1)) (C := R_M) (T := F_M) (N := 23) hx hb hts in_M hown hK hP 0 rfl rfl 1 (by decide) (hts _ wd_515) (fun _ h9 => h9) rfl d_M_widthOf_117 ?_
    refine lv_iload_n hx hb d_M_widthOf_120 rfl (lv_at hl 2 rfl) ?_
    refine n_iald hx hb hK hP 1 0 rfl rfl (i := j) (by omega) (by omega) d_M_widthOf_121 ?_
    refine lv_goto (tgt := 126) hx hb d_M_widthOf_122 (by decide) ?_
    exact fn_iret hx hb hr hlocks hAe hK hP hD hS (congrArg nI (pW1_t hj (by omega)).symm) d_M_widthOf_126
set_option maxHeartbeats 4000000 in
set_option maxRecDepth 100000 in
theorem c_M_widthOf_2 (l : Launch) (D : va_G) (ma : Nat → Nat) (cI cZ : ClassId) (th nv nb nt nf na lv nm : Nat) (vw tk ta : Nat → Nat) (tb tc : Nat → Int32) (tw fk fa : Nat → Nat) (fb : Nat → Int32) (od sd aa am vl : Nat → Nat) (ho : Nat → Bool) (hok : Mok nv nb nt nf na lv nm vw tk ta tb tc tw fk fa fb od sd am vl) (ka kb kc : Int32) : Fn l y_M_widthOf (wk y_M_widthOf b_M_widthOf 5 (some .int)) rm_M_widthOf D cls [(cI, .int), (cZ, .boolean)] [.ref (ma 0), .int (nI 2), .int ka, .int kb, .int kc] (mW ma cI cZ th nv nb nt nf na lv nm vw tk ta tb tc tw fk fa fb od sd aa am vl ho) XT (some (.int (nI (pWk nv nt nf vw tw 2 ka kb kc)))) (mW ma cI cZ th nv nb nt nf na lv nm vw tk ta tb tc tw fk fa fb od sd aa am vl ho) := by
  refine Fn.of (by decide) rfl (Nat.le_of_ble_eq_true rfl) ?_
  intro p e s m below meth c A ls hx hb hml hr hts0 hown hlocks hnm hP hK hD hS hA hAe hX hl
  have hts : ∀ w ∈ lw_ok, w.before _ s = true := fun w h => hts0 w (List.mem_cons_of_mem _ h)
  have hown : s.vm.findClass R_M = some m.cls := hown
  have hP : va_P D cls (mW ma cI cZ th nv nb nt nf na lv nm vw tk ta tb tc tw fk fa fb od sd aa am vl ho) s.heap := hP
  have hl : lv_has ls 5 [(0, .ref (ma 0)), (1, .int (nI 2)), (2, .int ka), (3, .int kb), (4, .int kc)] := hl
  obtain ⟨o_nv, o_nb, o_nt, o_nf, o_na, o_lv, o_nm, o_vw, o_tw, o_am, o_sd, o_T, o_F, o_od, o_vl⟩ := id hok
  refine lv_iload_n hx hb d_M_widthOf_0 rfl (lv_at hl 1 rfl) ?_
  refine lv_tableIn (tgt := 127) (off := 126) hx hb d_M_widthOf_1 (by decide +kernel) (by decide +kernel) (by decide +kernel) (by decide) ?_
  refine lv_aload_n hx hb d_M_widthOf_127 rfl (lv_at hl 0 rfl) ?_
  refine lv_iload_n hx hb d_M_widthOf_128 rfl (lv_at hl 2 rfl) ?_
  refine lv_iload_n hx hb d_M_widthOf_129 rfl (lv_at hl 3 rfl) ?_
  refine fn_V (ws' := (mW ma cI cZ th nv nb nt nf na lv nm vw tk ta tb tc tw fk fa fb od sd aa am vl ho)) (w1 := (mW ma cI cZ th nv nb nt nf na lv nm vw tk ta tb tc tw fk fa fb od sd aa am vl ho)) (wc := (mW ma cI cZ th nv nb nt nf na lv nm vw tk ta tb tc tw fk fa fb od sd aa am vl ho)) (wr := []) ⟨hx, hb, hml, hown, hts⟩ (c_M_alike l D ma cI cZ th nv nb nt nf na lv nm vw tk ta tb tc tw fk fa fb od sd aa am vl ho hok ka kb) ⟨callB_of 2 hts (gW wd_611) rfl rfl rfl (hts _ wd_4) (hts _ wd_608) hd_M_alike ⟨Nat.le_of_ble_eq_true rfl, Nat.le_of_ble_eq_true rfl⟩, hts _ wd_610, hts _ wd_p24⟩ XT_ok (fun _ _ _ => trivial) hK hP hD hS hA 0 3 rfl rfl rfl [0, 1] [0, 1, 2, 3, 4, 5, 6, 7, 8, 9, 10, 11, 12, 13, 14, 15] [] [0, 1, 2, 3, 4, 5, 6, 7, 8, 9, 10, 11, 12, 13, 14, 15] rfl rfl rfl rfl rfl (by decide) rfl rfl rfl hl.1 rfl (Nat.le_of_ble_eq_true rfl) d_M_widthOf_130 ⟨Nat.zero_le _, Nat.zero_le _⟩ (st1 := [.int (bI (alB nt tw ka kb))]) rfl (fun H locs hP hD hS => ?_)
  refine b_if_eq (tgt := 145) hx hb d_M_widthOf_133 (by decide) (fun c_133 => ?_) (fun c_133 => ?_)
  · refine lv_iconst (v := nI 0) hx hb d_M_widthOf_145 (by decide) ?_
    exact fn_iret hx hb hr hlocks hAe hK hP hD hS (congrArg nI (show 0 = cW nt tw ka kb from (alB_no c_133).symm)) d_M_widthOf_146
  · obtain ⟨eW, hA1, hA2⟩ := alB_cW c_133
    obtain ⟨i, hi, rfl⟩ := hasB_nat hA1
    refine lv_aload_n hx hb d_M_widthOf_136 rfl (lv_at hl 0 rfl) ?_
    refine va_get (D := D) (ci := 3) (v := .ref (ma 6)) (C := R_M) (T := F_M) (N := 23) hx hb hts in_M hown hK hP 0 rfl rfl 8 (by decide) (hts _ wd_522) (fun _ h9 => h9) rfl d_M_widthOf_137 ?_
    refine lv_iload_n hx hb d_M_widthOf_140 rfl (lv_at hl 2 rfl) ?_
    refine n_iald hx hb hK hP 6 0 rfl rfl (i := i) (by omega) (by omega) d_M_widthOf_141 ?_
    refine lv_goto (tgt := 146) hx hb d_M_widthOf_142 (by decide) ?_
    exact fn_iret hx hb hr hlocks hAe hK hP hD hS (congrArg nI (show tw i = cW nt tw (nI i) kb by rw [eW, tW_I hi (by omega)])) d_M_widthOf_146
set_option maxHeartbeats 4000000 in
set_option maxRecDepth 100000 in
theorem c_M_widthOf_3 (l : Launch) (D : va_G) (ma : Nat → Nat) (cI cZ : ClassId) (th nv nb nt nf na lv nm : Nat) (vw tk ta : Nat → Nat) (tb tc : Nat → Int32) (tw fk fa : Nat → Nat) (fb : Nat → Int32) (od sd aa am vl : Nat → Nat) (ho : Nat → Bool) (hok : Mok nv nb nt nf na lv nm vw tk ta tb tc tw fk fa fb od sd am vl) (ka kb kc : Int32) : Fn l y_M_widthOf (wk y_M_widthOf b_M_widthOf 5 (some .int)) rm_M_widthOf D cls [(cI, .int), (cZ, .boolean)] [.ref (ma 0), .int (nI 3), .int ka, .int kb, .int kc] (mW ma cI cZ th nv nb nt nf na lv nm vw tk ta tb tc tw fk fa fb od sd aa am vl ho) XT (some (.int (nI (pWk nv nt nf vw tw 3 ka kb kc)))) (mW ma cI cZ th nv nb nt nf na lv nm vw tk ta tb tc tw fk fa fb od sd aa am vl ho) := by
  refine Fn.of (by decide) rfl (Nat.le_of_ble_eq_true rfl) ?_
  intro p e s m below meth c A ls hx hb hml hr hts0 hown hlocks hnm hP hK hD hS hA hAe hX hl
  have hts : ∀ w ∈ lw_ok, w.before _ s = true := fun w h => hts0 w (List.mem_cons_of_mem _ h)
  have hown : s.vm.findClass R_M = some m.cls := hown
  have hP : va_P D cls (mW ma cI cZ th nv nb nt nf na lv nm vw tk ta tb tc tw fk fa fb od sd aa am vl ho) s.heap := hP
  have hl : lv_has ls 5 [(0, .ref (ma 0)), (1, .int (nI 3)), (2, .int ka), (3, .int kb), (4, .int kc)] := hl
  obtain ⟨o_nv, o_nb, o_nt, o_nf, o_na, o_lv, o_nm, o_vw, o_tw, o_am, o_sd, o_T, o_F, o_od, o_vl⟩ := id hok
  refine lv_iload_n hx hb d_M_widthOf_0 rfl (lv_at hl 1 rfl) ?_
  refine lv_tableIn (tgt := 127) (off := 126) hx hb d_M_widthOf_1 (by decide +kernel) (by decide +kernel) (by decide +kernel) (by decide) ?_
  refine lv_aload_n hx hb d_M_widthOf_127 rfl (lv_at hl 0 rfl) ?_
  refine lv_iload_n hx hb d_M_widthOf_128 rfl (lv_at hl 2 rfl) ?_
  refine lv_iload_n hx hb d_M_widthOf_129 rfl (lv_at hl 3 rfl) ?_
  refine fn_V (ws' := (mW ma cI cZ th nv nb nt nf na lv nm vw tk ta tb tc tw fk fa fb od sd aa am vl ho)) (w1 := (mW ma cI cZ th nv nb nt nf na lv nm vw tk ta tb tc tw fk fa fb od sd aa am vl ho)) (wc := (mW ma cI cZ th nv nb nt nf na lv nm vw tk ta tb tc tw fk fa fb od sd aa am vl ho)) (wr := []) ⟨hx, hb, hml, hown, hts⟩ (c_M_alike l D ma cI cZ th nv nb nt nf na lv nm vw tk ta tb tc tw fk fa fb od sd aa am vl ho hok ka kb) ⟨callB_of 2 hts (gW wd_611) rfl rfl rfl (hts _ wd_4) (hts _ wd_608) hd_M_alike ⟨Nat.le_of_ble_eq_true rfl, Nat.le_of_ble_eq_true rfl⟩, hts _ wd_610, hts _ wd_p24⟩ XT_ok (fun _ _ _ => trivial) hK hP hD hS hA 0 3 rfl rfl rfl [0, 1] [0, 1, 2, 3, 4, 5, 6, 7, 8, 9, 10, 11, 12, 13, 14, 15] [] [0, 1, 2, 3, 4, 5, 6, 7, 8, 9, 10, 11, 12, 13, 14, 15] rfl rfl rfl rfl rfl (by decide) rfl rfl rfl hl.1 rfl (Nat.le_of_ble_eq_true rfl) d_M_widthOf_130 ⟨Nat.zero_le _, Nat.zero_le _⟩ (st1 := [.int (bI (alB nt tw ka kb))]) rfl (fun H locs hP hD hS => ?_)
  refine b_if_eq (tgt := 145) hx hb d_M_widthOf_133 (by decide) (fun c_133 => ?_) (fun c_133 => ?_)
  · refine lv_iconst (v := nI 0) hx hb d_M_widthOf_145 (by decide) ?_
    exact fn_iret hx hb hr hlocks hAe hK hP hD hS (congrArg nI (show 0 = cW nt tw ka kb from (alB_no c_133).symm)) d_M_widthOf_146
  · obtain ⟨eW, hA1, hA2⟩ := alB_cW c_133
    obtain ⟨i, hi, rfl⟩ := hasB_nat hA1
    refine lv_aload_n hx hb d_M_widthOf_136 rfl (lv_at hl 0 rfl) ?_
    refine va_get (D := D) (ci := 3) (v := .ref (ma 6)) (C := R_M) (T := F_M) (N := 23) hx hb hts in_M hown hK hP 0 rfl rfl 8 (by decide) (hts _ wd_522) (fun _ h9 => h9) rfl d_M_widthOf_137 ?_
    refine lv_iload_n hx hb d_M_widthOf_140 rfl (lv_at hl 2 rfl) ?_
    refine n_iald hx hb hK hP 6 0 rfl rfl (i := i) (by omega) (by omega) d_M_widthOf_141 ?_
    refine lv_goto (tgt := 146) hx hb d_M_widthOf_142 (by decide) ?_
    exact fn_iret hx hb hr hlocks hAe hK hP hD hS (congrArg nI (show tw i = cW nt tw (nI i) kb by rw [eW, tW_I hi (by omega)])) d_M_widthOf_146
set_option maxHeartbeats 4000000 in
set_option maxRecDepth 100000 in
theorem c_M_widthOf_4 (l : Launch) (D : va_G) (ma : Nat → Nat) (cI cZ : ClassId) (th nv nb nt nf na lv nm : Nat) (vw tk ta : Nat → Nat) (tb tc : Nat → Int32) (tw fk fa : Nat → Nat) (fb : Nat → Int32) (od sd aa am vl : Nat → Nat) (ho : Nat → Bool) (hok : Mok nv nb nt nf na lv nm vw tk ta tb tc tw fk fa fb od sd am vl) (ka kb kc : Int32) : Fn l y_M_widthOf (wk y_M_widthOf b_M_widthOf 5 (some .int)) rm_M_widthOf D cls [(cI, .int), (cZ, .boolean)] [.ref (ma 0), .int (nI 4), .int ka, .int kb, .int kc] (mW ma cI cZ th nv nb nt nf na lv nm vw tk ta tb tc tw fk fa fb od sd aa am vl ho) XT (some (.int (nI (pWk nv nt nf vw tw 4 ka kb kc)))) (mW ma cI cZ th nv nb nt nf na lv nm vw tk ta tb tc tw fk fa fb od sd aa am vl ho) := by
  refine Fn.of (by decide) rfl (Nat.le_of_ble_eq_true rfl) ?_
  intro p e s m below meth c A ls hx hb hml hr hts0 hown hlocks hnm hP hK hD hS hA hAe hX hl
  have hts : ∀ w ∈ lw_ok, w.before _ s = true := fun w h => hts0 w (List.mem_cons_of_mem _ h)
  have hown : s.vm.findClass R_M = some m.cls := hown
  have hP : va_P D cls (mW ma cI cZ th nv nb nt nf na lv nm vw tk ta tb tc tw fk fa fb od sd aa am vl ho) s.heap := hP
  have hl : lv_has ls 5 [(0, .ref (ma 0)), (1, .int (nI 4)), (2, .int ka), (3, .int kb), (4, .int kc)] := hl
  obtain ⟨o_nv, o_nb, o_nt, o_nf, o_na, o_lv, o_nm, o_vw, o_tw, o_am, o_sd, o_T, o_F, o_od, o_vl⟩ := id hok
  refine lv_iload_n hx hb d_M_widthOf_0 rfl (lv_at hl 1 rfl) ?_
  refine lv_tableIn (tgt := 127) (off := 126) hx hb d_M_widthOf_1 (by decide +kernel) (by decide +kernel) (by decide +kernel) (by decide) ?_
  refine lv_aload_n hx hb d_M_widthOf_127 rfl (lv_at hl 0 rfl) ?_
  refine lv_iload_n hx hb d_M_widthOf_128 rfl (lv_at hl 2 rfl) ?_
  refine lv_iload_n hx hb d_M_widthOf_129 rfl (lv_at hl 3 rfl) ?_
  refine fn_V (ws' := (mW ma cI cZ th nv nb nt nf na lv nm vw tk ta tb tc tw fk fa fb od sd aa am vl ho)) (w1 := (mW ma cI cZ th nv nb nt nf na lv nm vw tk ta tb tc tw fk fa fb od sd aa am vl ho)) (wc := (mW ma cI cZ th nv nb nt nf na lv nm vw tk ta tb tc tw fk fa fb od sd aa am vl ho)) (wr := []) ⟨hx, hb, hml, hown, hts⟩ (c_M_alike l D ma cI cZ th nv nb nt nf na lv nm vw tk ta tb tc tw fk fa fb od sd aa am vl ho hok ka kb) ⟨callB_of 2 hts (gW wd_611) rfl rfl rfl (hts _ wd_4) (hts _ wd_608) hd_M_alike ⟨Nat.le_of_ble_eq_true rfl, Nat.le_of_ble_eq_true rfl⟩, hts _ wd_610, hts _ wd_p24⟩ XT_ok (fun _ _ _ => trivial) hK hP hD hS hA 0 3 rfl rfl rfl [0, 1] [0, 1, 2, 3, 4, 5, 6, 7, 8, 9, 10, 11, 12, 13, 14, 15] [] [0, 1, 2, 3, 4, 5, 6, 7, 8, 9, 10, 11, 12, 13, 14, 15] rfl rfl rfl rfl rfl (by decide) rfl rfl rfl hl.1 rfl (Nat.le_of_ble_eq_true rfl) d_M_widthOf_130 ⟨Nat.zero_le _, Nat.zero_le _⟩ (st1 := [.int (bI (alB nt tw ka kb))]) rfl (fun H locs hP hD hS => ?_)
  refine b_if_eq (tgt := 145) hx hb d_M_widthOf_133 (by decide) (fun c_133 => ?_) (fun c_133 => ?_)
  · refine lv_iconst (v := nI 0) hx hb d_M_widthOf_145 (by decide) ?_
    exact fn_iret hx hb hr hlocks hAe hK hP hD hS (congrArg nI (show 0 = cW nt tw ka kb from (alB_no c_133).symm)) d_M_widthOf_146
  · obtain ⟨eW, hA1, hA2⟩ := alB_cW c_133
    obtain ⟨i, hi, rfl⟩ := hasB_nat hA1
    refine lv_aload_n hx hb d_M_widthOf_136 rfl (lv_at hl 0 rfl) ?_
    refine va_get (D := D) (ci := 3) (v := .ref (ma 6)) (C := R_M) (T := F_M) (N := 23) hx hb hts in_M hown hK hP 0 rfl rfl 8 (by decide) (hts _ wd_522) (fun _ h9 => h9) rfl d_M_widthOf_137 ?_
    refine lv_iload_n hx hb d_M_widthOf_140 rfl (lv_at hl 2 rfl) ?_
    refine n_iald hx hb hK hP 6 0 rfl rfl (i := i) (by omega) (by omega) d_M_widthOf_141 ?_
    refine lv_goto (tgt := 146) hx hb d_M_widthOf_142 (by decide) ?_
    exact fn_iret hx hb hr hlocks hAe hK hP hD hS (congrArg nI (show tw i = cW nt tw (nI i) kb by rw [eW, tW_I hi (by omega)])) d_M_widthOf_146
set_option maxHeartbeats 4000000 in
set_option maxRecDepth 100000 in
theorem c_M_widthOf_5 (l : Launch) (D : va_G) (ma : Nat → Nat) (cI cZ : ClassId) (th nv nb nt nf na lv nm : Nat) (vw tk ta : Nat → Nat) (tb tc : Nat → Int32) (tw fk fa : Nat → Nat) (fb : Nat → Int32) (od sd aa am vl : Nat → Nat) (ho : Nat → Bool) (hok : Mok nv nb nt nf na lv nm vw tk ta tb tc tw fk fa fb od sd am vl) (ka kb kc : Int32) : Fn l y_M_widthOf (wk y_M_widthOf b_M_widthOf 5 (some .int)) rm_M_widthOf D cls [(cI, .int), (cZ, .boolean)] [.ref (ma 0), .int (nI 5), .int ka, .int kb, .int kc] (mW ma cI cZ th nv nb nt nf na lv nm vw tk ta tb tc tw fk fa fb od sd aa am vl ho) XT (some (.int (nI (pWk nv nt nf vw tw 5 ka kb kc)))) (mW ma cI cZ th nv nb nt nf na lv nm vw tk ta tb tc tw fk fa fb od sd aa am vl ho) := by
  refine Fn.of (by decide) rfl (Nat.le_of_ble_eq_true rfl) ?_
  intro p e s m below meth c A ls hx hb hml hr hts0 hown hlocks hnm hP hK hD hS hA hAe hX hl
  have hts : ∀ w ∈ lw_ok, w.before _ s = true := fun w h => hts0 w (List.mem_cons_of_mem _ h)
  have hown : s.vm.findClass R_M = some m.cls := hown
  have hP : va_P D cls (mW ma cI cZ th nv nb nt nf na lv nm vw tk ta tb tc tw fk fa fb od sd aa am vl ho) s.heap := hP
  have hl : lv_has ls 5 [(0, .ref (ma 0)), (1, .int (nI 5)), (2, .int ka), (3, .int kb), (4, .int kc)] := hl
  obtain ⟨o_nv, o_nb, o_nt, o_nf, o_na, o_lv, o_nm, o_vw, o_tw, o_am, o_sd, o_T, o_F, o_od, o_vl⟩ := id hok
  refine lv_iload_n hx hb d_M_widthOf_0 rfl (lv_at hl 1 rfl) ?_
  refine lv_tableIn (tgt := 127) (off := 126) hx hb d_M_widthOf_1 (by decide +kernel) (by decide +kernel) (by decide +kernel) (by decide) ?_
  refine lv_aload_n hx hb d_M_widthOf_127 rfl (lv_at hl 0 rfl) ?_
  refine lv_iload_n hx hb d_M_widthOf_128 rfl (lv_at hl 2 rfl) ?_
  refine lv_iload_n hx hb d_M_widthOf_129 rfl (lv_at hl 3 rfl) ?_
  refine fn_V (ws' := (mW ma cI cZ th nv nb nt nf na lv nm vw tk ta tb tc tw fk fa fb od sd aa am vl ho)) (w1 := (mW ma cI cZ th nv nb nt nf na lv nm vw tk ta tb tc tw fk fa fb od sd aa am vl ho)) (wc := (mW ma cI cZ th nv nb nt nf na lv nm vw tk ta tb tc tw fk fa fb od sd aa am vl ho)) (wr := []) ⟨hx, hb, hml, hown, hts⟩ (c_M_alike l D ma cI cZ th nv nb nt nf na lv nm vw tk ta tb tc tw fk fa fb od sd aa am vl ho hok ka kb) ⟨callB_of 2 hts (gW wd_611) rfl rfl rfl (hts _ wd_4) (hts _ wd_608) hd_M_alike ⟨Nat.le_of_ble_eq_true rfl, Nat.le_of_ble_eq_true rfl⟩, hts _ wd_610, hts _ wd_p24⟩ XT_ok (fun _ _ _ => trivial) hK hP hD hS hA 0 3 rfl rfl rfl [0, 1] [0, 1, 2, 3, 4, 5, 6, 7, 8, 9, 10, 11, 12, 13, 14, 15] [] [0, 1, 2, 3, 4, 5, 6, 7, 8, 9, 10, 11, 12, 13, 14, 15] rfl rfl rfl rfl rfl (by decide) rfl rfl rfl hl.1 rfl (Nat.le_of_ble_eq_true rfl) d_M_widthOf_130 ⟨Nat.zero_le _, Nat.zero_le _⟩ (st1 := [.int (bI (alB nt tw ka kb))]) rfl (fun H locs hP hD hS => ?_)
  refine b_if_eq (tgt := 145) hx hb d_M_widthOf_133 (by decide) (fun c_133 => ?_) (fun c_133 => ?_)
  · refine lv_iconst (v := nI 0) hx hb d_M_widthOf_145 (by decide) ?_
    exact fn_iret hx hb hr hlocks hAe hK hP hD hS (congrArg nI (show 0 = cW nt tw ka kb from (alB_no c_133).symm)) d_M_widthOf_146
  · obtain ⟨eW, hA1, hA2⟩ := alB_cW c_133
    obtain ⟨i, hi, rfl⟩ := hasB_nat hA1
    refine lv_aload_n hx hb d_M_widthOf_136 rfl (lv_at hl 0 rfl) ?_
    refine va_get (D := D) (ci := 3) (v := .ref (ma 6)) (C := R_M) (T := F_M) (N := 23) hx hb hts in_M hown hK hP 0 rfl rfl 8 (by decide) (hts _ wd_522) (fun _ h9 => h9) rfl d_M_widthOf_137 ?_
    refine lv_iload_n hx hb d_M_widthOf_140 rfl (lv_at hl 2 rfl) ?_
    refine n_iald hx hb hK hP 6 0 rfl rfl (i := i) (by omega) (by omega) d_M_widthOf_141 ?_
    refine lv_goto (tgt := 146) hx hb d_M_widthOf_142 (by decide) ?_
    exact fn_iret hx hb hr hlocks hAe hK hP hD hS (congrArg nI (show tw i = cW nt tw (nI i) kb by rw [eW, tW_I hi (by omega)])) d_M_widthOf_146
set_option maxHeartbeats 4000000 in
set_option maxRecDepth 100000 in
theorem c_M_widthOf_6 (l : Launch) (D : va_G) (ma : Nat → Nat) (cI cZ : ClassId) (th nv nb nt nf na lv nm : Nat) (vw tk ta : Nat → Nat) (tb tc : Nat → Int32) (tw fk fa : Nat → Nat) (fb : Nat → Int32) (od sd aa am vl : Nat → Nat) (ho : Nat → Bool) (hok : Mok nv nb nt nf na lv nm vw tk ta tb tc tw fk fa fb od sd am vl) (ka kb kc : Int32) : Fn l y_M_widthOf (wk y_M_widthOf b_M_widthOf 5 (some .int)) rm_M_widthOf D cls [(cI, .int), (cZ, .boolean)] [.ref (ma 0), .int (nI 6), .int ka, .int kb, .int kc] (mW ma cI cZ th nv nb nt nf na lv nm vw tk ta tb tc tw fk fa fb od sd aa am vl ho) XT (some (.int (nI (pWk nv nt nf vw tw 6 ka kb kc)))) (mW ma cI cZ th nv nb nt nf na lv nm vw tk ta tb tc tw fk fa fb od sd aa am vl ho) := by
  refine Fn.of (by decide) rfl (Nat.le_of_ble_eq_true rfl) ?_
  intro p e s m below meth c A ls hx hb hml hr hts0 hown hlocks hnm hP hK hD hS hA hAe hX hl
  have hts : ∀ w ∈ lw_ok, w.before _ s = true := fun w h => hts0 w (List.mem_cons_of_mem _ h)
  have hown : s.vm.findClass R_M = some m.cls := hown
  have hP : va_P D cls (mW ma cI cZ th nv nb nt nf na lv nm vw tk ta tb tc tw fk fa fb od sd aa am vl ho) s.heap := hP
  have hl : lv_has ls 5 [(0, .ref (ma 0)), (1, .int (nI 6)), (2, .int ka), (3, .int kb), (4, .int kc)] := hl
  obtain ⟨o_nv, o_nb, o_nt, o_nf, o_na, o_lv, o_nm, o_vw, o_tw, o_am, o_sd, o_T, o_F, o_od, o_vl⟩ := id hok
  refine lv_iload_n hx hb d_M_widthOf_0 rfl (lv_at hl 1 rfl) ?_
  refine lv_tableIn (tgt := 127) (off := 126) hx hb d_M_widthOf_1 (by decide +kernel) (by decide +kernel) (by decide +kernel) (by decide) ?_
  refine lv_aload_n hx hb d_M_widthOf_127 rfl (lv_at hl 0 rfl) ?_
  refine lv_iload_n hx hb d_M_widthOf_128 rfl (lv_at hl 2 rfl) ?_
  refine lv_iload_n hx hb d_M_widthOf_129 rfl (lv_at hl 3 rfl) ?_
  refine fn_V (ws' := (mW ma cI cZ th nv nb nt nf na lv nm vw tk ta tb tc tw fk fa fb od sd aa am vl ho)) (w1 := (mW ma cI cZ th nv nb nt nf na lv nm vw tk ta tb tc tw fk fa fb od sd aa am vl ho)) (wc := (mW ma cI cZ th nv nb nt nf na lv nm vw tk ta tb tc tw fk fa fb od sd aa am vl ho)) (wr := []) ⟨hx, hb, hml, hown, hts⟩ (c_M_alike l D ma cI cZ th nv nb nt nf na lv nm vw tk ta tb tc tw fk fa fb od sd aa am vl ho hok ka kb) ⟨callB_of 2 hts (gW wd_611) rfl rfl rfl (hts _ wd_4) (hts _ wd_608) hd_M_alike ⟨Nat.le_of_ble_eq_true rfl, Nat.le_of_ble_eq_true rfl⟩, hts _ wd_610, hts _ wd_p24⟩ XT_ok (fun _ _ _ => trivial) hK hP hD hS hA 0 3 rfl rfl rfl [0, 1] [0, 1, 2, 3, 4, 5, 6, 7, 8, 9, 10, 11, 12, 13, 14, 15] [] [0, 1, 2, 3, 4, 5, 6, 7, 8, 9, 10, 11, 12, 13, 14, 15] rfl rfl rfl rfl rfl (by decide) rfl rfl rfl hl.1 rfl (Nat.le_of_ble_eq_true rfl) d_M_widthOf_130 ⟨Nat.zero_le _, Nat.zero_le _⟩ (st1 := [.int (bI (alB nt tw ka kb))]) rfl (fun H locs hP hD hS => ?_)
  refine b_if_eq (tgt := 145) hx hb d_M_widthOf_133 (by decide) (fun c_133 => ?_) (fun c_133 => ?_)
  · refine lv_iconst (v := nI 0) hx hb d_M_widthOf_145 (by decide) ?_
    exact fn_iret hx hb hr hlocks hAe hK hP hD hS (congrArg nI (show 0 = cW nt tw ka kb from (alB_no c_133).symm)) d_M_widthOf_146
  · obtain ⟨eW, hA1, hA2⟩ := alB_cW c_133
    obtain ⟨i, hi, rfl⟩ := hasB_nat hA1
    refine lv_aload_n hx hb d_M_widthOf_136 rfl (lv_at hl 0 rfl) ?_
    refine va_get (D := D) (ci := 3) (v := .ref (ma 6)) (C := R_M) (T := F_M) (N := 23) hx hb hts in_M hown hK hP 0 rfl rfl 8 (by decide) (hts _ wd_522) (fun _ h9 => h9) rfl d_M_widthOf_137 ?_
    refine lv_iload_n hx hb d_M_widthOf_140 rfl (lv_at hl 2 rfl) ?_
    refine n_iald hx hb hK hP 6 0 rfl rfl (i := i) (by omega) (by omega) d_M_widthOf_141 ?_
    refine lv_goto (tgt := 146) hx hb d_M_widthOf_142 (by decide) ?_
    exact fn_iret hx hb hr hlocks hAe hK hP hD hS (congrArg nI (show tw i = cW nt tw (nI i) kb by rw [eW, tW_I hi (by omega)])) d_M_widthOf_146
set_option maxHeartbeats 4000000 in
set_option maxRecDepth 100000 in
theorem c_M_widthOf_7 (l : Launch) (D : va_G) (ma : Nat → Nat) (cI cZ : ClassId) (th nv nb nt nf na lv nm : Nat) (vw tk ta : Nat → Nat) (tb tc : Nat → Int32) (tw fk fa : Nat → Nat) (fb : Nat → Int32) (od sd aa am vl : Nat → Nat) (ho : Nat → Bool) (hok : Mok nv nb nt nf na lv nm vw tk ta tb tc tw fk fa fb od sd am vl) (ka kb kc : Int32) : Fn l y_M_widthOf (wk y_M_widthOf b_M_widthOf 5 (some .int)) rm_M_widthOf D cls [(cI, .int), (cZ, .boolean)] [.ref (ma 0), .int (nI 7), .int ka, .int kb, .int kc] (mW ma cI cZ th nv nb nt nf na lv nm vw tk ta tb tc tw fk fa fb od sd aa am vl ho) XT (some (.int (nI (pWk nv nt nf vw tw 7 ka kb kc)))) (mW ma cI cZ th nv nb nt nf na lv nm vw tk ta tb tc tw fk fa fb od sd aa am vl ho) := by
  refine Fn.of (by decide) rfl (Nat.le_of_ble_eq_true rfl) ?_
  intro p e s m below meth c A ls hx hb hml hr hts0 hown hlocks hnm hP hK hD hS hA hAe hX hl
  have hts : ∀ w ∈ lw_ok, w.before _ s = true := fun w h => hts0 w (List.mem_cons_of_mem _ h)
  have hown : s.vm.findClass R_M = some m.cls := hown
  have hP : va_P D cls (mW ma cI cZ th nv nb nt nf na lv nm vw tk ta tb tc tw fk fa fb od sd aa am vl ho) s.heap := hP
  have hl : lv_has ls 5 [(0, .ref (ma 0)), (1, .int (nI 7)), (2, .int ka), (3, .int kb), (4, .int kc)] := hl
  obtain ⟨o_nv, o_nb, o_nt, o_nf, o_na, o_lv, o_nm, o_vw, o_tw, o_am, o_sd, o_T, o_F, o_od, o_vl⟩ := id hok
  refine lv_iload_n hx hb d_M_widthOf_0 rfl (lv_at hl 1 rfl) ?_
  refine lv_tableIn (tgt := 127) (off := 126) hx hb d_M_widthOf_1 (by decide +kernel) (by decide +kernel) (by decide +kernel) (by decide) ?_
  refine lv_aload_n hx hb d_M_widthOf_127 rfl (lv_at hl 0 rfl) ?_
  refine lv_iload_n hx hb d_M_widthOf_128 rfl (lv_at hl 2 rfl) ?_
  refine lv_iload_n hx hb d_M_widthOf_129 rfl (lv_at hl 3 rfl) ?_
  refine fn_V (ws' := (mW ma cI cZ th nv nb nt nf na lv nm vw tk ta tb tc tw fk fa fb od sd aa am vl ho)) (w1 := (mW ma cI cZ th nv nb nt nf na lv nm vw tk ta tb tc tw fk fa fb od sd aa am vl ho)) (wc := (mW ma cI cZ th nv nb nt nf na lv nm vw tk ta tb tc tw fk fa fb od sd aa am vl ho)) (wr := []) ⟨hx, hb, hml, hown, hts⟩ (c_M_alike l D ma cI cZ th nv nb nt nf na lv nm vw tk ta tb tc tw fk fa fb od sd aa am vl ho hok ka kb) ⟨callB_of 2 hts (gW wd_611) rfl rfl rfl (hts _ wd_4) (hts _ wd_608) hd_M_alike ⟨Nat.le_of_ble_eq_true rfl, Nat.le_of_ble_eq_true rfl⟩, hts _ wd_610, hts _ wd_p24⟩ XT_ok (fun _ _ _ => trivial) hK hP hD hS hA 0 3 rfl rfl rfl [0, 1] [0, 1, 2, 3, 4, 5, 6, 7, 8, 9, 10, 11, 12, 13, 14, 15] [] [0, 1, 2, 3, 4, 5, 6, 7, 8, 9, 10, 11, 12, 13, 14, 15] rfl rfl rfl rfl rfl (by decide) rfl rfl rfl hl.1 rfl (Nat.le_of_ble_eq_true rfl) d_M_widthOf_130 ⟨Nat.zero_le _, Nat.zero_le _⟩ (st1 := [.int (bI (alB nt tw ka kb))]) rfl (fun H locs hP hD hS => ?_)
  refine b_if_eq (tgt := 145) hx hb d_M_widthOf_133 (by decide) (fun c_133 => ?_) (fun c_133 => ?_)
  · refine lv_iconst (v := nI 0) hx hb d_M_widthOf_145 (by decide) ?_
    exact fn_iret hx hb hr hlocks hAe hK hP hD hS (congrArg nI (show 0 = cW nt tw ka kb from (alB_no c_133).symm)) d_M_widthOf_146
  · obtain ⟨eW, hA1, hA2⟩ := alB_cW c_133
    obtain ⟨i, hi, rfl⟩ := hasB_nat hA1
    refine lv_aload_n hx hb d_M_widthOf_136 rfl (lv_at hl 0 rfl) ?_
    refine va_get (D := D) (ci := 3) (v := .ref (ma 6)) (C := R_M) (T := F_M) (N := 23) hx hb hts in_M hown hK hP 0 rfl rfl 8 (by decide) (hts _ wd_522) (fun _ h9 => h9) rfl d_M_widthOf_137 ?_
    refine lv_iload_n hx hb d_M_widthOf_140 rfl (lv_at hl 2 rfl) ?_
    refine n_iald hx hb hK hP 6 0 rfl rfl (i := i) (by omega) (by omega) d_M_widthOf_141 ?_
    refine lv_goto (tgt := 146) hx hb d_M_widthOf_142 (by decide) ?_
    exact fn_iret hx hb hr hlocks hAe hK hP hD hS (congrArg nI (show tw i = cW nt tw (nI i) kb by rw [eW, tW_I hi (by omega)])) d_M_widthOf_146
set_option maxHeartbeats 4000000 in
set_option maxRecDepth 100000 in
theorem c_M_widthOf_8 (l : Launch) (D : va_G) (ma : Nat → Nat) (cI cZ : ClassId) (th nv nb nt nf na lv nm : Nat) (vw tk ta : Nat → Nat) (tb tc : Nat → Int32) (tw fk fa : Nat → Nat) (fb : Nat → Int32) (od sd aa am vl : Nat → Nat) (ho : Nat → Bool) (hok : Mok nv nb nt nf na lv nm vw tk ta tb tc tw fk fa fb od sd am vl) (ka kb kc : Int32) : Fn l y_M_widthOf (wk y_M_widthOf b_M_widthOf 5 (some .int)) rm_M_widthOf D cls [(cI, .int), (cZ, .boolean)] [.ref (ma 0), .int (nI 8), .int ka, .int kb, .int kc] (mW ma cI cZ th nv nb nt nf na lv nm vw tk ta tb tc tw fk fa fb od sd aa am vl ho) XT (some (.int (nI (pWk nv nt nf vw tw 8 ka kb kc)))) (mW ma cI cZ th nv nb nt nf na lv nm vw tk ta tb tc tw fk fa fb od sd aa am vl ho) := by
  refine Fn.of (by decide) rfl (Nat.le_of_ble_eq_true rfl) ?_
  intro p e s m below meth c A ls hx hb hml hr hts0 hown hlocks hnm hP hK hD hS hA hAe hX hl
  have hts : ∀ w ∈ lw_ok, w.before _ s = true := fun w h => hts0 w (List.mem_cons_of_mem _ h)
  have hown : s.vm.findClass R_M = some m.cls := hown
  have hP : va_P D cls (mW ma cI cZ th nv nb nt nf na lv nm vw tk ta tb tc tw fk fa fb od sd aa am vl ho) s.heap := hP
  have hl : lv_has ls 5 [(0, .ref (ma 0)), (1, .int (nI 8)), (2, .int ka), (3, .int kb), (4, .int kc)] := hl
  obtain ⟨o_nv, o_nb, o_nt, o_nf, o_na, o_lv, o_nm, o_vw, o_tw, o_am, o_sd, o_T, o_F, o_od, o_vl⟩ := id hok
  refine lv_iload_n hx hb d_M_widthOf_0 rfl (lv_at hl 1 rfl) ?_
  refine lv_tableIn (tgt := 147) (off := 146) hx hb d_M_widthOf_1 (by decide +kernel) (by decide +kernel) (by decide +kernel) (by decide) ?_
  refine lv_aload_n hx hb d_M_widthOf_147 rfl (lv_at hl 0 rfl) ?_
  refine lv_iload_n hx hb d_M_widthOf_148 rfl (lv_at hl 2 rfl) ?_
  refine fn_V (ws' := (mW ma cI cZ th nv nb nt nf na lv nm vw tk ta tb tc tw fk fa fb od sd aa am vl ho)) (w1 := (mW ma cI cZ th nv nb nt nf na lv nm vw tk ta tb tc tw fk fa fb od sd aa am vl ho)) (wc := (mW ma cI cZ th nv nb nt nf na lv nm vw tk ta tb tc tw fk fa fb od sd aa am vl ho)) (wr := []) ⟨hx, hb, hml, hown, hts⟩ (c_M_isTerm l D ma cI cZ th nv nb nt nf na lv nm vw tk ta tb tc tw fk fa fb od sd aa am vl ho hok ka) ⟨callB_of 1 hts (gW wd_615) rfl rfl rfl (hts _ wd_4) (hts _ wd_612) hd_M_isTerm ⟨Nat.le_of_ble_eq_true rfl, Nat.le_of_ble_eq_true rfl⟩, hts _ wd_614, hts _ wd_p25⟩ XT_ok (fun _ _ _ => trivial) hK hP hD hS hA 0 3 rfl rfl rfl [0, 1] [0, 1, 2, 3, 4, 5, 6, 7, 8, 9, 10, 11, 12, 13, 14, 15] [] [0, 1, 2, 3, 4, 5, 6, 7, 8, 9, 10, 11, 12, 13, 14, 15] rfl rfl rfl rfl rfl (by decide) rfl rfl rfl hl.1 rfl (Nat.le_of_ble_eq_true rfl) d_M_widthOf_149 ⟨Nat.zero_le _, Nat.zero_le _⟩ (st1 := [.int (bI (hasB ka nt))]) rfl (fun H locs hP hD hS => ?_)
  refine b_if_eq (tgt := 164) hx hb d_M_widthOf_152 (by decide) (fun c_152 => ?_) (fun c_152 => ?_)
  · refine lv_iconst (v := nI 0) hx hb d_M_widthOf_164 (by decide) ?_
    exact fn_iret hx hb hr hlocks hAe hK hP hD hS (congrArg nI (show 0 = tW nt tw ka from (tW_no c_152).symm)) d_M_widthOf_165
  · obtain ⟨i, hi, rfl⟩ := hasB_nat c_152
    refine lv_aload_n hx hb d_M_widthOf_155 rfl (lv_at hl 0 rfl) ?_
    refine va_get (D := D) (ci := 3) (v := .ref (ma 6)) (C := R_M) (T := F_M) (N := 23) hx hb hts in_M hown hK hP 0 rfl rfl 8 (by decide) (hts _ wd_522) (fun _ h9 => h9) rfl d_M_widthOf_156 ?_
    refine lv_iload_n hx hb d_M_widthOf_159 rfl (lv_at hl 2 rfl) ?_
    refine n_iald hx hb hK hP 6 0 rfl rfl (i := i) (by omega) (by omega) d_M_widthOf_160 ?_
    refine lv_goto (tgt := 165) hx hb d_M_widthOf_161 (by decide) ?_
    exact fn_iret hx hb hr hlocks hAe hK hP hD hS (congrArg nI (show tw i = tW nt tw (nI i) from (tW_I hi (by omega)).symm)) d_M_widthOf_165
set_option maxHeartbeats 4000000 in
set_option maxRecDepth 100000 in
theorem c_M_widthOf_9 (l : Launch) (D : va_G) (ma : Nat → Nat) (cI cZ : ClassId) (th nv nb nt nf na lv nm : Nat) (vw tk ta : Nat → Nat) (tb tc : Nat → Int32) (tw fk fa : Nat → Nat) (fb : Nat → Int32) (od sd aa am vl : Nat → Nat) (ho : Nat → Bool) (hok : Mok nv nb nt nf na lv nm vw tk ta tb tc tw fk fa fb od sd am vl) (ka kb kc : Int32) : Fn l y_M_widthOf (wk y_M_widthOf b_M_widthOf 5 (some .int)) rm_M_widthOf D cls [(cI, .int), (cZ, .boolean)] [.ref (ma 0), .int (nI 9), .int ka, .int kb, .int kc] (mW ma cI cZ th nv nb nt nf na lv nm vw tk ta tb tc tw fk fa fb od sd aa am vl ho) XT (some (.int (nI (pWk nv nt nf vw tw 9 ka kb kc)))) (mW ma cI cZ th nv nb nt nf na lv nm vw tk ta tb tc tw fk fa fb od sd aa am vl ho) := by
  refine Fn.of (by decide) rfl (Nat.le_of_ble_eq_true rfl) ?_
  intro p e s m below meth c A ls hx hb hml hr hts0 hown hlocks hnm hP hK hD hS hA hAe hX hl
  have hts : ∀ w ∈ lw_ok, w.before _ s = true := fun w h => hts0 w (List.mem_cons_of_mem _ h)
  have hown : s.vm.findClass R_M = some m.cls := hown
  have hP : va_P D cls (mW ma cI cZ th nv nb nt nf na lv nm vw tk ta tb tc tw fk fa fb od sd aa am vl ho) s.heap := hP
  have hl : lv_has ls 5 [(0, .ref (ma 0)), (1, .int (nI 9)), (2, .int ka), (3, .int kb), (4, .int kc)] := hl
  obtain ⟨o_nv, o_nb, o_nt, o_nf, o_na, o_lv, o_nm, o_vw, o_tw, o_am, o_sd, o_T, o_F, o_od, o_vl⟩ := id hok
  refine lv_iload_n hx hb d_M_widthOf_0 rfl (lv_at hl 1 rfl) ?_
  refine lv_tableIn (tgt := 166) (off := 165) hx hb d_M_widthOf_1 (by decide +kernel) (by decide +kernel) (by decide +kernel) (by decide) ?_
  refine lv_aload_n hx hb d_M_widthOf_166 rfl (lv_at hl 0 rfl) ?_
  refine lv_iload_n hx hb d_M_widthOf_167 rfl (lv_at hl 2 rfl) ?_
  refine fn_V (ws' := (mW ma cI cZ th nv nb nt nf na lv nm vw tk ta tb tc tw fk fa fb od sd aa am vl ho)) (w1 := (mW ma cI cZ th nv nb nt nf na lv nm vw tk ta tb tc tw fk fa fb od sd aa am vl ho)) (wc := (mW ma cI cZ th nv nb nt nf na lv nm vw tk ta tb tc tw fk fa fb od sd aa am vl ho)) (wr := []) ⟨hx, hb, hml, hown, hts⟩ (c_M_isTerm l D ma cI cZ th nv nb nt nf na lv nm vw tk ta tb tc tw fk fa fb od sd aa am vl ho hok ka) ⟨callB_of 1 hts (gW wd_615) rfl rfl rfl (hts _ wd_4) (hts _ wd_612) hd_M_isTerm ⟨Nat.le_of_ble_eq_true rfl, Nat.le_of_ble_eq_true rfl⟩, hts _ wd_614, hts _ wd_p25⟩ XT_ok (fun _ _ _ => trivial) hK hP hD hS hA 0 3 rfl rfl rfl [0, 1] [0, 1, 2, 3, 4, 5, 6, 7, 8, 9, 10, 11, 12, 13, 14, 15] [] [0, 1, 2, 3, 4, 5, 6, 7, 8, 9, 10, 11, 12, 13, 14, 15] rfl rfl rfl rfl rfl (by decide) rfl rfl rfl hl.1 rfl (Nat.le_of_ble_eq_true rfl) d_M_widthOf_168 ⟨Nat.zero_le _, Nat.zero_le _⟩ (st1 := [.int (bI (hasB ka nt))]) rfl (fun H locs hP hD hS => ?_)
  refine b_if_eq (tgt := 192) hx hb d_M_widthOf_171 (by decide) (fun c_171 => ?_) (fun c_171 => ?_)
  · refine lv_iconst (v := nI 0) hx hb d_M_widthOf_192 (by decide) ?_
    exact fn_iret hx hb hr hlocks hAe hK hP hD hS (congrArg nI (show 0 = ite _ (tW nt tw ka) 0 by rw [tW_no c_171, ite_self])) d_M_widthOf_193
  · obtain ⟨i, hi, rfl⟩ := hasB_nat c_171
    refine lv_iload_n hx hb d_M_widthOf_174 rfl (lv_at hl 3 rfl) ?_
    refine lv_iconst (v := nI 0) hx hb d_M_widthOf_175 (by decide) ?_
    refine lv_iconst (v := nI 4) hx hb d_M_widthOf_176 (by decide) ?_
    refine fn_S (ws' := (mW ma cI cZ th nv nb nt nf na lv nm vw tk ta tb tc tw fk fa fb od sd aa am vl ho)) (w1 := (nilW)) (wc := (nilW)) (wr := [(ma 0, .inr (3, [.int (nI th), .ref (ma 1), .int (nI nv), .int (nI nb), .ref (ma 2), .ref (ma 3), .ref (ma 4), .ref (ma 5), .ref (ma 6), .int (nI nt), .ref (ma 7), .ref (ma 8), .ref (ma 9), .int (nI nf), .ref (ma 10), .ref (ma 11), .ref (ma 12), .int (nI na), .int (nI lv), .ref (ma 13), .int (nI nm), .ref (ma 14), .ref (ma 15)])), (ma 1, .inl (cI, 6, .inl (fun j => nI (vw j)))), (ma 2, .inl (cI, 50, .inl (fun j => nI (tk j)))), (ma 3, .inl (cI, 50, .inl (fun j => nI (ta j)))), (ma 4, .inl (cI, 50, .inl tb)), (ma 5, .inl (cI, 50, .inl tc)), (ma 6, .inl (cI, 50, .inl (fun j => nI (tw j)))), (ma 7, .inl (cI, 50, .inl (fun j => nI (fk j)))), (ma 8, .inl (cI, 50, .inl (fun j => nI (fa j)))), (ma 9, .inl (cI, 50, .inl fb)), (ma 10, .inl (cI, 100, .inl (fun j => nI (od j)))), (ma 11, .inl (cI, 30, .inl (fun j => nI (sd j)))), (ma 12, .inl (cI, 30, .inl (fun j => nI (aa j)))), (ma 13, .inl (cI, 8, .inl (fun j => nI (am j)))), (ma 14, .inl (cI, 50, .inl (fun j => nI (vl j)))), (ma 15, .inl (cZ, 50, .inl (fun j => bI (ho j))))]) ⟨hx, hb, hml, hown, hts⟩ (c_M_in l D kb (nI 0) (nI 4)) ⟨callB_of 3 hts (gW wd_595) rfl rfl rfl (hts _ wd_4) (hts _ wd_593) hd_M_in ⟨Nat.le_of_ble_eq_true rfl, Nat.le_of_ble_eq_true rfl⟩, hts _ wd_594⟩ XT_ok (fun _ _ _ => trivial) hK hP hD hS hA [] [] [0, 1, 2, 3, 4, 5, 6, 7, 8, 9, 10, 11, 12, 13, 14, 15] [0, 1, 2, 3, 4, 5, 6, 7, 8, 9, 10, 11, 12, 13, 14, 15] rfl rfl rfl rfl rfl (by decide) rfl rfl rfl hl.1 rfl (Nat.le_of_ble_eq_true rfl) d_M_widthOf_177 ⟨Nat.zero_le _, Nat.zero_le _⟩ (st1 := [.int (bI (inI kb (nI 0) (nI 4)))]) rfl (fun H locs hP hD hS => ?_)
    refine b_if_eq (tgt := 192) hx hb d_M_widthOf_180 (by decide) (fun c_180 => ?_) (fun c_180 => ?_)
    · refine lv_iconst (v := nI 0) hx hb d_M_widthOf_192 (by decide) ?_
      exact fn_iret hx hb hr hlocks hAe hK hP hD hS (congrArg nI (if_neg (of_decide_eq_false ((inI_N (x := kb) (a := 0) (b := 4) (by decide) (by decide)).symm.trans c_180))).symm) d_M_widthOf_193
    · refine lv_aload_n hx hb d_M_widthOf_183 rfl (lv_at hl 0 rfl) ?_
      refine va_get (D := D) (ci := 3) (v := .ref (ma 6)) (C := R_M) (T := F_M) (N := 23) hx hb hts in_M hown hK hP 0 rfl rfl 8 (by decide) (hts _ wd_522) (fun _ h9 => h9) rfl d_M_widthOf_184 ?_
      refine lv_iload_n hx hb d_M_widthOf_187 rfl (lv_at hl 2 rfl) ?_
      refine n_iald hx hb hK hP 6 0 rfl rfl (i := i) (by omega) (by omega) d_M_widthOf_188 ?_
      refine lv_goto (tgt := 193) hx hb d_M_widthOf_189 (by decide) ?_
      exact fn_iret hx hb hr hlocks hAe hK hP hD hS (congrArg nI (((if_pos (of_decide_eq_true ((inI_N (x := kb) (a := 0) (b := 4) (by decide) (by decide)).symm.trans c_180))).trans (tW_I hi (by omega))).symm)) d_M_widthOf_193
set_option maxHeartbeats 4000000 in
set_option maxRecDepth 100000 in
theorem c_M_widthOf_10 (l : Launch) (D : va_G) (ma : Nat → Nat) (cI cZ : ClassId) (th nv nb nt nf na lv nm : Nat) (vw tk ta : Nat → Nat) (tb tc : Nat → Int32) (tw fk fa : Nat → Nat) (fb : Nat → Int32) (od sd aa am vl : Nat → Nat) (ho : Nat → Bool) (hok : Mok nv nb nt nf na lv nm vw tk ta tb tc tw fk fa fb od sd am vl) (ka kb kc : Int32) : Fn l y_M_widthOf (wk y_M_widthOf b_M_widthOf 5 (some .int)) rm_M_widthOf D cls [(cI, .int), (cZ, .boolean)] [.ref (ma 0), .int (nI 10), .int ka, .int kb, .int kc] (mW ma cI cZ th nv nb nt nf na lv nm vw tk ta tb tc tw fk fa fb od sd aa am vl ho) XT (some (.int (nI (pWk nv nt nf vw tw 10 ka kb kc)))) (mW ma cI cZ th nv nb nt nf na lv nm vw tk ta tb tc tw fk fa fb od sd aa am vl ho) := by
  refine Fn.of (by decide) rfl (Nat.le_of_ble_eq_true rfl) ?_
  intro p e s m below meth c A ls hx hb hml hr hts0 hown hlocks hnm hP hK hD hS hA hAe hX hl
  have hts : ∀ w ∈ lw_ok, w.before _ s = true := fun w h => hts0 w (List.mem_cons_of_mem _ h)
  have hown : s.vm.findClass R_M = some m.cls := hown
  have hP : va_P D cls (mW ma cI cZ th nv nb nt nf na lv nm vw tk ta tb tc tw fk fa fb od sd aa am vl ho) s.heap := hP
  have hl : lv_has ls 5 [(0, .ref (ma 0)), (1, .int (nI 10)), (2, .int ka), (3, .int kb), (4, .int kc)] := hl
  obtain ⟨o_nv, o_nb, o_nt, o_nf, o_na, o_lv, o_nm, o_vw, o_tw, o_am, o_sd, o_T, o_F, o_od, o_vl⟩ := id hok
  refine lv_iload_n hx hb d_M_widthOf_0 rfl (lv_at hl 1 rfl) ?_
  refine lv_tableIn (tgt := 166) (off := 165) hx hb d_M_widthOf_1 (by decide +kernel) (by decide +kernel) (by decide +kernel) (by decide) ?_
  refine lv_aload_n hx hb d_M_widthOf_166 rfl (lv_at hl 0 rfl) ?_
  refine lv_iload_n hx hb d_M_widthOf_167 rfl (lv_at hl 2 rfl) ?_
  refine fn_V (ws' := (mW ma cI cZ th nv nb nt nf na lv nm vw tk ta tb tc tw fk fa fb od sd aa am vl ho)) (w1 := (mW ma cI cZ th nv nb nt nf na lv nm vw tk ta tb tc tw fk fa fb od sd aa am vl ho)) (wc := (mW ma cI cZ th nv nb nt nf na lv nm vw tk ta tb tc tw fk fa fb od sd aa am vl ho)) (wr := []) ⟨hx, hb, hml, hown, hts⟩ (c_M_isTerm l D ma cI cZ th nv nb nt nf na lv nm vw tk ta tb tc tw fk fa fb od sd aa am vl ho hok ka) ⟨callB_of 1 hts (gW wd_615) rfl rfl rfl (hts _ wd_4) (hts _ wd_612) hd_M_isTerm ⟨Nat.le_of_ble_eq_true rfl, Nat.le_of_ble_eq_true rfl⟩, hts _ wd_614, hts _ wd_p25⟩ XT_ok (fun _ _ _ => trivial) hK hP hD hS hA 0 3 rfl rfl rfl [0, 1] [0, 1, 2, 3, 4, 5, 6, 7, 8, 9, 10, 11, 12, 13, 14, 15] [] [0, 1, 2, 3, 4, 5, 6, 7, 8, 9, 10, 11, 12, 13, 14, 15] rfl rfl rfl rfl rfl (by decide) rfl rfl rfl hl.1 rfl (Nat.le_of_ble_eq_true rfl) d_M_widthOf_168 ⟨Nat.zero_le _, Nat.zero_le _⟩ (st1 := [.int (bI (hasB ka nt))]) rfl (fun H locs hP hD hS => ?_)
  refine b_if_eq (tgt := 192) hx hb d_M_widthOf_171 (by decide) (fun c_171 => ?_) (fun c_171 => ?_)
  · refine lv_iconst (v := nI 0) hx hb d_M_widthOf_192 (by decide) ?_
    exact fn_iret hx hb hr hlocks hAe hK hP hD hS (congrArg nI (show 0 = ite _ (tW nt tw ka) 0 by rw [tW_no c_171, ite_self])) d_M_widthOf_193
  · obtain ⟨i, hi, rfl⟩ := hasB_nat c_171
    refine lv_iload_n hx hb d_M_widthOf_174 rfl (lv_at hl 3 rfl) ?_
    refine lv_iconst (v := nI 0) hx hb d_M_widthOf_175 (by decide) ?_
    refine lv_iconst (v := nI 4) hx hb d_M_widthOf_176 (by decide) ?_
    refine fn_S (ws' := (mW ma cI cZ th nv nb nt nf na lv nm vw tk ta tb tc tw fk fa fb od sd aa am vl ho)) (w1 := (nilW)) (wc := (nilW)) (wr := [(ma 0, .inr (3, [.int (nI th), .ref (ma 1), .int (nI nv), .int (nI nb), .ref (ma 2), .ref (ma 3), .ref (ma 4), .ref (ma 5), .ref (ma 6), .int (nI nt), .ref (ma 7), .ref (ma 8), .ref (ma 9), .int (nI nf), .ref (ma 10), .ref (ma 11), .ref (ma 12), .int (nI na), .int (nI lv), .ref (ma 13), .int (nI nm), .ref (ma 14), .ref (ma 15)])), (ma 1, .inl (cI, 6, .inl (fun j => nI (vw j)))), (ma 2, .inl (cI, 50, .inl (fun j => nI (tk j)))), (ma 3, .inl (cI, 50, .inl (fun j => nI (ta j)))), (ma 4, .inl (cI, 50, .inl tb)), (ma 5, .inl (cI, 50, .inl tc)), (ma 6, .inl (cI, 50, .inl (fun j => nI (tw j)))), (ma 7, .inl (cI, 50, .inl (fun j => nI (fk j)))), (ma 8, .inl (cI, 50, .inl (fun j => nI (fa j)))), (ma 9, .inl (cI, 50, .inl fb)), (ma 10, .inl (cI, 100, .inl (fun j => nI (od j)))), (ma 11, .inl (cI, 30, .inl (fun j => nI (sd j)))), (ma 12, .inl (cI, 30, .inl (fun j => nI (aa j)))), (ma 13, .inl (cI, 8, .inl (fun j => nI (am j)))), (ma 14, .inl (cI, 50, .inl (fun j => nI (vl j)))), (ma 15, .inl (cZ, 50, .inl (fun j => bI (ho j))))]) ⟨hx, hb, hml, hown, hts⟩ (c_M_in l D kb (nI 0) (nI 4)) ⟨callB_of 3 hts (gW wd_595) rfl rfl rfl (hts _ wd_4) (hts _ wd_593) hd_M_in ⟨Nat.le_of_ble_eq_true rfl, Nat.le_of_ble_eq_true rfl⟩, hts _ wd_594⟩ XT_ok (fun _ _ _ => trivial) hK hP hD hS hA [] [] [0, 1, 2, 3, 4, 5, 6, 7, 8, 9, 10, 11, 12, 13, 14, 15] [0, 1, 2, 3, 4, 5, 6, 7, 8, 9, 10, 11, 12, 13, 14, 15] rfl rfl rfl rfl rfl (by decide) rfl rfl rfl hl.1 rfl (Nat.le_of_ble_eq_true rfl) d_M_widthOf_177 ⟨Nat.zero_le _, Nat.zero_le _⟩ (st1 := [.int (bI (inI kb (nI 0) (nI 4)))]) rfl (fun H locs hP hD hS => ?_)
    refine b_if_eq (tgt := 192) hx hb d_M_widthOf_180 (by decide) (fun c_180 => ?_) (fun c_180 => ?_)
    · refine lv_iconst (v := nI 0) hx hb d_M_widthOf_192 (by decide) ?_
      exact fn_iret hx hb hr hlocks hAe hK hP hD hS (congrArg nI (if_neg (of_decide_eq_false ((inI_N (x := kb) (a := 0) (b := 4) (by decide) (by decide)).symm.trans c_180))).symm) d_M_widthOf_193
    · refine lv_aload_n hx hb d_M_widthOf_183 rfl (lv_at hl 0 rfl) ?_
      refine va_get (D := D) (ci := 3) (v := .ref (ma 6)) (C := R_M) (T := F_M) (N := 23) hx hb hts in_M hown hK hP 0 rfl rfl 8 (by decide) (hts _ wd_522) (fun _ h9 => h9) rfl d_M_widthOf_184 ?_
      refine lv_iload_n hx hb d_M_widthOf_187 rfl (lv_at hl 2 rfl) ?_
      refine n_iald hx hb hK hP 6 0 rfl rfl (i := i) (by omega) (by omega) d_M_widthOf_188 ?_
      refine lv_goto (tgt := 193) hx hb d_M_widthOf_189 (by decide) ?_
      exact fn_iret hx hb hr hlocks hAe hK hP hD hS (congrArg nI (((if_pos (of_decide_eq_true ((inI_N (x := kb) (a := 0) (b := 4) (by decide) (by decide)).symm.trans c_180))).trans (tW_I hi (by omega))).symm)) d_M_widthOf_193
set_option maxHeartbeats 4000000 in
set_option maxRecDepth 100000 in
theorem c_M_widthOf_11 (l : Launch) (D : va_G) (ma : Nat → Nat) (cI cZ : ClassId) (th nv nb nt nf na lv nm : Nat) (vw tk ta : Nat → Nat) (tb tc : Nat → Int32) (tw fk fa : Nat → Nat) (fb : Nat → Int32) (od sd aa am vl : Nat → Nat) (ho : Nat → Bool) (hok : Mok nv nb nt nf na lv nm vw tk ta tb tc tw fk fa fb od sd am vl) (ka kb kc : Int32) : Fn l y_M_widthOf (wk y_M_widthOf b_M_widthOf 5 (some .int)) rm_M_widthOf D cls [(cI, .int), (cZ, .boolean)] [.ref (ma 0), .int (nI 11), .int ka, .int kb, .int kc] (mW ma cI cZ th nv nb nt nf na lv nm vw tk ta tb tc tw fk fa fb od sd aa am vl ho) XT (some (.int (nI (pWk nv nt nf vw tw 11 ka kb kc)))) (mW ma cI cZ th nv nb nt nf na lv nm vw tk ta tb tc tw fk fa fb od sd aa am vl ho) := by
  refine Fn.of (by decide) rfl (Nat.le_of_ble_eq_true rfl) ?_
  intro p e s m below meth c A ls hx hb hml hr hts0 hown hlocks hnm hP hK hD hS hA hAe hX hl
  have hts : ∀ w ∈ lw_ok, w.before _ s = true := fun w h => hts0 w (List.mem_cons_of_mem _ h)
  have hown : s.vm.findClass R_M = some m.cls := hown
  have hP : va_P D cls (mW ma cI cZ th nv nb nt nf na lv nm vw tk ta tb tc tw fk fa fb od sd aa am vl ho) s.heap := hP
  have hl : lv_has ls 5 [(0, .ref (ma 0)), (1, .int (nI 11)), (2, .int ka), (3, .int kb), (4, .int kc)] := hl
  obtain ⟨o_nv, o_nb, o_nt, o_nf, o_na, o_lv, o_nm, o_vw, o_tw, o_am, o_sd, o_T, o_F, o_od, o_vl⟩ := id hok
  refine lv_iload_n hx hb d_M_widthOf_0 rfl (lv_at hl 1 rfl) ?_
  refine lv_tableIn (tgt := 166) (off := 165) hx hb d_M_widthOf_1 (by decide +kernel) (by decide +kernel) (by decide +kernel) (by decide) ?_
  refine lv_aload_n hx hb d_M_widthOf_166 rfl (lv_at hl 0 rfl) ?_
  refine lv_iload_n hx hb d_M_widthOf_167 rfl (lv_at hl 2 rfl) ?_
  refine fn_V (ws' := (mW ma cI cZ th nv nb nt nf na lv nm vw tk ta tb tc tw fk fa fb od sd aa am vl ho)) (w1 := (mW ma cI cZ th nv nb nt nf na lv nm vw tk ta tb tc tw fk fa fb od sd aa am vl ho)) (wc := (mW ma cI cZ th nv nb nt nf na lv nm vw tk ta tb tc tw fk fa fb od sd aa am vl ho)) (wr := []) ⟨hx, hb, hml, hown, hts⟩ (c_M_isTerm l D ma cI cZ th nv nb nt nf na lv nm vw tk ta tb tc tw fk fa fb od sd aa am vl ho hok ka) ⟨callB_of 1 hts (gW wd_615) rfl rfl rfl (hts _ wd_4) (hts _ wd_612) hd_M_isTerm ⟨Nat.le_of_ble_eq_true rfl, Nat.le_of_ble_eq_true rfl⟩, hts _ wd_614, hts _ wd_p25⟩ XT_ok (fun _ _ _ => trivial) hK hP hD hS hA 0 3 rfl rfl rfl [0, 1] [0, 1, 2, 3, 4, 5, 6, 7, 8, 9, 10, 11, 12, 13, 14, 15] [] [0, 1, 2, 3, 4, 5, 6, 7, 8, 9, 10, 11, 12, 13, 14, 15] rfl rfl rfl rfl rfl (by decide) rfl rfl rfl hl.1 rfl (Nat.le_of_ble_eq_true rfl) d_M_widthOf_168 ⟨Nat.zero_le _, Nat.zero_le _⟩ (st1 := [.int (bI (hasB ka nt))]) rfl (fun H locs hP hD hS => ?_)
  refine b_if_eq (tgt := 192) hx hb d_M_widthOf_171 (by decide) (fun c_171 => ?_) (fun c_171 => ?_)
  · refine lv_iconst (v := nI 0) hx hb d_M_widthOf_192 (by decide) ?_
    exact fn_iret hx hb hr hlocks hAe hK hP hD hS (congrArg nI (show 0 = ite _ (tW nt tw ka) 0 by rw [tW_no c_171, ite_self])) d_M_widthOf_193
  · obtain ⟨i, hi, rfl⟩ := hasB_nat c_171
    refine lv_iload_n hx hb d_M_widthOf_174 rfl (lv_at hl 3 rfl) ?_
    refine lv_iconst (v := nI 0) hx hb d_M_widthOf_175 (by decide) ?_
    refine lv_iconst (v := nI 4) hx hb d_M_widthOf_176 (by decide) ?_
    refine fn_S (ws' := (mW ma cI cZ th nv nb nt nf na lv nm vw tk ta tb tc tw fk fa fb od sd aa am vl ho)) (w1 := (nilW)) (wc := (nilW)) (wr := [(ma 0, .inr (3, [.int (nI th), .ref (ma 1), .int (nI nv), .int (nI nb), .ref (ma 2), .ref (ma 3), .ref (ma 4), .ref (ma 5), .ref (ma 6), .int (nI nt), .ref (ma 7), .ref (ma 8), .ref (ma 9), .int (nI nf), .ref (ma 10), .ref (ma 11), .ref (ma 12), .int (nI na), .int (nI lv), .ref (ma 13), .int (nI nm), .ref (ma 14), .ref (ma 15)])), (ma 1, .inl (cI, 6, .inl (fun j => nI (vw j)))), (ma 2, .inl (cI, 50, .inl (fun j => nI (tk j)))), (ma 3, .inl (cI, 50, .inl (fun j => nI (ta j)))), (ma 4, .inl (cI, 50, .inl tb)), (ma 5, .inl (cI, 50, .inl tc)), (ma 6, .inl (cI, 50, .inl (fun j => nI (tw j)))), (ma 7, .inl (cI, 50, .inl (fun j => nI (fk j)))), (ma 8, .inl (cI, 50, .inl (fun j => nI (fa j)))), (ma 9, .inl (cI, 50, .inl fb)), (ma 10, .inl (cI, 100, .inl (fun j => nI (od j)))), (ma 11, .inl (cI, 30, .inl (fun j => nI (sd j)))), (ma 12, .inl (cI, 30, .inl (fun j => nI (aa j)))), (ma 13, .inl (cI, 8, .inl (fun j => nI (am j)))), (ma 14, .inl (cI, 50, .inl (fun j => nI (vl j)))), (ma 15, .inl (cZ, 50, .inl (fun j => bI (ho j))))]) ⟨hx, hb, hml, hown, hts⟩ (c_M_in l D kb (nI 0) (nI 4)) ⟨callB_of 3 hts (gW wd_595) rfl rfl rfl (hts _ wd_4) (hts _ wd_593) hd_M_in ⟨Nat.le_of_ble_eq_true rfl, Nat.le_of_ble_eq_true rfl⟩, hts _ wd_594⟩ XT_ok (fun _ _ _ => trivial) hK hP hD hS hA [] [] [0, 1, 2, 3, 4, 5, 6, 7, 8, 9, 10, 11, 12, 13, 14, 15] [0, 1, 2, 3, 4, 5, 6, 7, 8, 9, 10, 11, 12, 13, 14, 15] rfl rfl rfl rfl rfl (by decide) rfl rfl rfl hl.1 rfl (Nat.le_of_ble_eq_true rfl) d_M_widthOf_177 ⟨Nat.zero_le _, Nat.zero_le _⟩ (st1 := [.int (bI (inI kb (nI 0) (nI 4)))]) rfl (fun H locs hP hD hS => ?_)
    refine b_if_eq (tgt := 192) hx hb d_M_widthOf_180 (by decide) (fun c_180 => ?_) (fun c_180 => ?_)
    · refine lv_iconst (v := nI 0) hx hb d_M_widthOf_192 (by decide) ?_
      exact fn_iret hx hb hr hlocks hAe hK hP hD hS (congrArg nI (if_neg (of_decide_eq_false ((inI_N (x := kb) (a := 0) (b := 4) (by decide) (by decide)).symm.trans c_180))).symm) d_M_widthOf_193
    · refine lv_aload_n hx hb d_M_widthOf_183 rfl (lv_at hl 0 rfl) ?_
      refine va_get (D := D) (ci := 3) (v := .ref (ma 6)) (C := R_M) (T := F_M) (N := 23) hx hb hts in_M hown hK hP 0 rfl rfl 8 (by decide) (hts _ wd_522) (fun _ h9 => h9) rfl d_M_widthOf_184 ?_
      refine lv_iload_n hx hb d_M_widthOf_187 rfl (lv_at hl 2 rfl) ?_
      refine n_iald hx hb hK hP 6 0 rfl rfl (i := i) (by omega) (by omega) d_M_widthOf_188 ?_
      refine lv_goto (tgt := 193) hx hb d_M_widthOf_189 (by decide) ?_
      exact fn_iret hx hb hr hlocks hAe hK hP hD hS (congrArg nI (((if_pos (of_decide_eq_true ((inI_N (x := kb) (a := 0) (b := 4) (by decide) (by decide)).symm.trans c_180))).trans (tW_I hi (by omega))).symm)) d_M_widthOf_193
set_option maxHeartbeats 4000000 in
set_option maxRecDepth 100000 in
theorem c_M_widthOf_12 (l : Launch) (D : va_G) (ma : Nat → Nat) (cI cZ : ClassId) (th nv nb nt nf na lv nm : Nat) (vw tk ta : Nat → Nat) (tb tc : Nat → Int32) (tw fk fa : Nat → Nat) (fb : Nat → Int32) (od sd aa am vl : Nat → Nat) (ho : Nat → Bool) (hok : Mok nv nb nt nf na lv nm vw tk ta tb tc tw fk fa fb od sd am vl) (ka kb kc : Int32) : Fn l y_M_widthOf (wk y_M_widthOf b_M_widthOf 5 (some .int)) rm_M_widthOf D cls [(cI, .int), (cZ, .boolean)] [.ref (ma 0), .int (nI 12), .int ka, .int kb, .int kc] (mW ma cI cZ th nv nb nt nf na lv nm vw tk ta tb tc tw fk fa fb od sd aa am vl ho) XT (some (.int (nI (pWk nv nt nf vw tw 12 ka kb kc)))) (mW ma cI cZ th nv nb nt nf na lv nm vw tk ta tb tc tw fk fa fb od sd aa am vl ho) := by
  refine Fn.of (by decide) rfl (Nat.le_of_ble_eq_true rfl) ?_
  intro p e s m below meth c A ls hx hb hml hr hts0 hown hlocks hnm hP hK hD hS hA hAe hX hl
  have hts : ∀ w ∈ lw_ok, w.before _ s = true := fun w h => hts0 w (List.mem_cons_of_mem _ h)
  have hown : s.vm.findClass R_M = some m.cls := hown
  have hP : va_P D cls (mW ma cI cZ th nv nb nt nf na lv nm vw tk ta tb tc tw fk fa fb od sd aa am vl ho) s.heap := hP
  have hl : lv_has ls 5 [(0, .ref (ma 0)), (1, .int (nI 12)), (2, .int ka), (3, .int kb), (4, .int kc)] := hl
  obtain ⟨o_nv, o_nb, o_nt, o_nf, o_na, o_lv, o_nm, o_vw, o_tw, o_am, o_sd, o_T, o_F, o_od, o_vl⟩ := id hok
  refine lv_iload_n hx hb d_M_widthOf_0 rfl (lv_at hl 1 rfl) ?_
  refine lv_tableIn (tgt := 194) (off := 193) hx hb d_M_widthOf_1 (by decide +kernel) (by decide +kernel) (by decide +kernel) (by decide) ?_
  refine lv_aload_n hx hb d_M_widthOf_194 rfl (lv_at hl 0 rfl) ?_
  refine lv_iload_n hx hb d_M_widthOf_195 rfl (lv_at hl 2 rfl) ?_
  refine fn_V (ws' := (mW ma cI cZ th nv nb nt nf na lv nm vw tk ta tb tc tw fk fa fb od sd aa am vl ho)) (w1 := (mW ma cI cZ th nv nb nt nf na lv nm vw tk ta tb tc tw fk fa fb od sd aa am vl ho)) (wc := (mW ma cI cZ th nv nb nt nf na lv nm vw tk ta tb tc tw fk fa fb od sd aa am vl ho)) (wr := []) ⟨hx, hb, hml, hown, hts⟩ (c_M_isFormula l D ma cI cZ th nv nb nt nf na lv nm vw tk ta tb tc tw fk fa fb od sd aa am vl ho hok ka) ⟨callB_of 1 hts (gW wd_619) rfl rfl rfl (hts _ wd_4) (hts _ wd_616) hd_M_isFormula ⟨Nat.le_of_ble_eq_true rfl, Nat.le_of_ble_eq_true rfl⟩, hts _ wd_618, hts _ wd_p26⟩ XT_ok (fun _ _ _ => trivial) hK hP hD hS hA 0 3 rfl rfl rfl [0, 1] [0, 1, 2, 3, 4, 5, 6, 7, 8, 9, 10, 11, 12, 13, 14, 15] [] [0, 1, 2, 3, 4, 5, 6, 7, 8, 9, 10, 11, 12, 13, 14, 15] rfl rfl rfl rfl rfl (by decide) rfl rfl rfl hl.1 rfl (Nat.le_of_ble_eq_true rfl) d_M_widthOf_196 ⟨Nat.zero_le _, Nat.zero_le _⟩ (st1 := [.int (bI (hasB ka nf))]) rfl (fun H locs hP hD hS => ?_)
  refine b_if_eq (tgt := 221) hx hb d_M_widthOf_199 (by decide) (fun c_199 => ?_) (fun c_199 => ?_)
  · refine lv_iconst (v := nI 0) hx hb d_M_widthOf_221 (by decide) ?_
    exact fn_iret hx hb hr hlocks hAe hK hP hD hS (congrArg nI (if_neg (by rw [c_199]; decide)).symm) d_M_widthOf_222
  · refine lv_aload_n hx hb d_M_widthOf_202 rfl (lv_at hl 0 rfl) ?_
    refine lv_iload_n hx hb d_M_widthOf_203 rfl (lv_at hl 3 rfl) ?_
    refine lv_iload hx hb d_M_widthOf_204 (lv_at hl 4 rfl) ?_
    refine fn_V (ws' := (mW ma cI cZ th nv nb nt nf na lv nm vw tk ta tb tc tw fk fa fb od sd aa am vl ho)) (w1 := (mW ma cI cZ th nv nb nt nf na lv nm vw tk ta tb tc tw fk fa fb od sd aa am vl ho)) (wc := (mW ma cI cZ th nv nb nt nf na lv nm vw tk ta tb tc tw fk fa fb od sd aa am vl ho)) (wr := []) ⟨hx, hb, hml, hown, hts⟩ (c_M_alike l D ma cI cZ th nv nb nt nf na lv nm vw tk ta tb tc tw fk fa fb od sd aa am vl ho hok kb kc) ⟨callB_of 2 hts (gW wd_611) rfl rfl rfl (hts _ wd_4) (hts _ wd_608) hd_M_alike ⟨Nat.le_of_ble_eq_true rfl, Nat.le_of_ble_eq_true rfl⟩, hts _ wd_610, hts _ wd_p24⟩ XT_ok (fun _ _ _ => trivial) hK hP hD hS hA 0 3 rfl rfl rfl [0, 1] [0, 1, 2, 3, 4, 5, 6, 7, 8, 9, 10, 11, 12, 13, 14, 15] [] [0, 1, 2, 3, 4, 5, 6, 7, 8, 9, 10, 11, 12, 13, 14, 15] rfl rfl rfl rfl rfl (by decide) rfl rfl rfl hl.1 rfl (Nat.le_of_ble_eq_true rfl) d_M_widthOf_206 ⟨Nat.zero_le _, Nat.zero_le _⟩ (st1 := [.int (bI (alB nt tw kb kc))]) rfl (fun H locs hP hD hS => ?_)
    refine b_if_eq (tgt := 221) hx hb d_M_widthOf_209 (by decide) (fun c_209 => ?_) (fun c_209 => ?_)
    · refine lv_iconst (v := nI 0) hx hb d_M_widthOf_221 (by decide) ?_
      exact fn_iret hx hb hr hlocks hAe hK hP hD hS (congrArg nI (((if_pos c_199).trans (alB_no c_209)).symm)) d_M_widthOf_222
    · obtain ⟨eW, hA1, hA2⟩ := alB_cW c_209
      obtain ⟨i, hi, rfl⟩ := hasB_nat hA1
      refine lv_aload_n hx hb d_M_widthOf_212 rfl (lv_at hl 0 rfl) ?_
      refine va_get (D := D) (ci := 3) (v := .ref (ma 6)) (C := R_M) (T := F_M) (N := 23) hx hb hts in_M hown hK hP 0 rfl rfl 8 (by decide) (hts _ wd_522) (fun _ h9 => h9) rfl d_M_widthOf_213 ?_
      refine lv_iload_n hx hb d_M_widthOf_216 rfl (lv_at hl 3 rfl) ?_
      refine n_iald hx hb hK hP 6 0 rfl rfl (i := i) (by omega) (by omega) d_M_widthOf_217 ?_
      refine lv_goto (tgt := 222) hx hb d_M_widthOf_218 (by decide) ?_
      exact fn_iret hx hb hr hlocks hAe hK hP hD hS (congrArg nI (((if_pos c_199).trans (eW.trans (tW_I hi (by omega)))).symm)) d_M_widthOf_222
set_option maxHeartbeats 4000000 in
set_option maxRecDepth 100000 in
theorem c_M_widthOf_13 (l : Launch) (D : va_G) (ma : Nat → Nat) (cI cZ : ClassId) (th nv nb nt nf na lv nm : Nat) (vw tk ta : Nat → Nat) (tb tc : Nat → Int32) (tw fk fa : Nat → Nat) (fb : Nat → Int32) (od sd aa am vl : Nat → Nat) (ho : Nat → Bool) (hok : Mok nv nb nt nf na lv nm vw tk ta tb tc tw fk fa fb od sd am vl) (ka kb kc : Int32) : Fn l y_M_widthOf (wk y_M_widthOf b_M_widthOf 5 (some .int)) rm_M_widthOf D cls [(cI, .int), (cZ, .boolean)] [.ref (ma 0), .int (nI 13), .int ka, .int kb, .int kc] (mW ma cI cZ th nv nb nt nf na lv nm vw tk ta tb tc tw fk fa fb od sd aa am vl ho) XT (some (.int (nI (pWk nv nt nf vw tw 13 ka kb kc)))) (mW ma cI cZ th nv nb nt nf na lv nm vw tk ta tb tc tw fk fa fb od sd aa am vl ho) := by
  refine Fn.of (by decide) rfl (Nat.le_of_ble_eq_true rfl) ?_
  intro p e s m below meth c A ls hx hb hml hr hts0 hown hlocks hnm hP hK hD hS hA hAe hX hl
  have hts : ∀ w ∈ lw_ok, w.before _ s = true := fun w h => hts0 w (List.mem_cons_of_mem _ h)
  have hown : s.vm.findClass R_M = some m.cls := hown
  have hP : va_P D cls (mW ma cI cZ th nv nb nt nf na lv nm vw tk ta tb tc tw fk fa fb od sd aa am vl ho) s.heap := hP
  have hl : lv_has ls 5 [(0, .ref (ma 0)), (1, .int (nI 13)), (2, .int ka), (3, .int kb), (4, .int kc)] := hl
  obtain ⟨o_nv, o_nb, o_nt, o_nf, o_na, o_lv, o_nm, o_vw, o_tw, o_am, o_sd, o_T, o_F, o_od, o_vl⟩ := id hok
  refine lv_iload_n hx hb d_M_widthOf_0 rfl (lv_at hl 1 rfl) ?_
  refine lv_tableIn (tgt := 223) (off := 222) hx hb d_M_widthOf_1 (by decide +kernel) (by decide +kernel) (by decide +kernel) (by decide) ?_
  refine lv_aload_n hx hb d_M_widthOf_223 rfl (lv_at hl 0 rfl) ?_
  refine lv_iload_n hx hb d_M_widthOf_224 rfl (lv_at hl 2 rfl) ?_
  refine fn_V (ws' := (mW ma cI cZ th nv nb nt nf na lv nm vw tk ta tb tc tw fk fa fb od sd aa am vl ho)) (w1 := (mW ma cI cZ th nv nb nt nf na lv nm vw tk ta tb tc tw fk fa fb od sd aa am vl ho)) (wc := (mW ma cI cZ th nv nb nt nf na lv nm vw tk ta tb tc tw fk fa fb od sd aa am vl ho)) (wr := []) ⟨hx, hb, hml, hown, hts⟩ (c_M_isTerm l D ma cI cZ th nv nb nt nf na lv nm vw tk ta tb tc tw fk fa fb od sd aa am vl ho hok ka) ⟨callB_of 1 hts (gW wd_615) rfl rfl rfl (hts _ wd_4) (hts _ wd_612) hd_M_isTerm ⟨Nat.le_of_ble_eq_true rfl, Nat.le_of_ble_eq_true rfl⟩, hts _ wd_614, hts _ wd_p25⟩ XT_ok (fun _ _ _ => trivial) hK hP hD hS hA 0 3 rfl rfl rfl [0, 1] [0, 1, 2, 3, 4, 5, 6, 7, 8, 9, 10, 11, 12, 13, 14, 15] [] [0, 1, 2, 3, 4, 5, 6, 7, 8, 9, 10, 11, 12, 13, 14, 15] rfl rfl rfl rfl rfl (by decide) rfl rfl rfl hl.1 rfl (Nat.le_of_ble_eq_true rfl) d_M_widthOf_225 ⟨Nat.zero_le _, Nat.zero_le _⟩ (st1 := [.int (bI (hasB ka nt))]) rfl (fun H locs hP hD hS => ?_)
  refine b_if_eq (tgt := 272) hx hb d_M_widthOf_228 (by decide) (fun c_228 => ?_) (fun c_228 => ?_)
  · refine lv_iconst (v := nI 0) hx hb d_M_widthOf_272 (by decide) ?_
    exact fn_iret hx hb hr hlocks hAe hK hP hD hS (congrArg nI (show 0 = jW nt tw ka kb by unfold jW; rw [if_neg (fun q => by rw [c_228] at q; exact absurd q.1 (by decide))])) d_M_widthOf_273
  · refine lv_aload_n hx hb d_M_widthOf_231 rfl (lv_at hl 0 rfl) ?_
    refine lv_iload_n hx hb d_M_widthOf_232 rfl (lv_at hl 3 rfl) ?_
    refine fn_V (ws' := (mW ma cI cZ th nv nb nt nf na lv nm vw tk ta tb tc tw fk fa fb od sd aa am vl ho)) (w1 := (mW ma cI cZ th nv nb nt nf na lv nm vw tk ta tb tc tw fk fa fb od sd aa am vl ho)) (wc := (mW ma cI cZ th nv nb nt nf na lv nm vw tk ta tb tc tw fk fa fb od sd aa am vl ho)) (wr := []) ⟨hx, hb, hml, hown, hts⟩ (c_M_isTerm l D ma cI cZ th nv nb nt nf na lv nm vw tk ta tb tc tw fk fa fb od sd aa am vl ho hok kb) ⟨callB_of 1 hts (gW wd_615) rfl rfl rfl (hts _ wd_4) (hts _ wd_612) hd_M_isTerm ⟨Nat.le_of_ble_eq_true rfl, Nat.le_of_ble_eq_true rfl⟩, hts _ wd_614, hts _ wd_p25⟩ XT_ok (fun _ _ _ => trivial) hK hP hD hS hA 0 3 rfl rfl rfl [0, 1] [0, 1, 2, 3, 4, 5, 6, 7, 8, 9, 10, 11, 12, 13, 14, 15] [] [0, 1, 2, 3, 4, 5, 6, 7, 8, 9, 10, 11, 12, 13, 14, 15] rfl rfl rfl rfl rfl (by decide) rfl rfl rfl hl.1 rfl (Nat.le_of_ble_eq_true rfl) d_M_widthOf_233 ⟨Nat.zero_le _, Nat.zero_le _⟩ (st1 := [.int (bI (hasB kb nt))]) rfl (fun H locs hP hD hS => ?_)
    refine b_if_eq (tgt := 272) hx hb d_M_widthOf_236 (by decide) (fun c_236 => ?_) (fun c_236 => ?_)
    · refine lv_iconst (v := nI 0) hx hb d_M_widthOf_272 (by decide) ?_
      exact fn_iret hx hb hr hlocks hAe hK hP hD hS (congrArg nI (show 0 = jW nt tw ka kb by unfold jW; rw [if_neg (fun q => by rw [c_236] at q; exact absurd q.2 (by decide))])) d_M_widthOf_273
    · obtain ⟨i, hi, rfl⟩ := hasB_nat c_228
      obtain ⟨j, hj, rfl⟩ := hasB_nat c_236
      have oi := o_tw i hi
      have oj := o_tw j hj
      refine lv_aload_n hx hb d_M_widthOf_239 rfl (lv_at hl 0 rfl) ?_
      refine va_get (D := D) (ci := 3) (v := .ref (ma 6)) (C := R_M) (T := F_M) (N := 23) hx hb hts in_M hown hK hP 0 rfl rfl 8 (by decide) (hts _ wd_522) (fun _ h9 => h9) rfl d_M_widthOf_240 ?_
      refine lv_iload_n hx hb d_M_widthOf_243 rfl (lv_at hl 2 rfl) ?_
      refine n_iald hx hb hK hP 6 0 rfl rfl (i := i) (by omega) (by omega) d_M_widthOf_244 ?_
      refine lv_aload_n hx hb d_M_widthOf_245 rfl (lv_at hl 0 rfl) ?_
      refine va_get (D := D) (ci := 3) (v := .ref (ma 6)) (C := R_M) (T := F_M) (N := 23) hx hb hts in_M hown hK hP 0 rfl rfl 8 (by decide) (hts _ wd_522) (fun _ h9 => h9) rfl d_M_widthOf_246 ?_
      refine lv_iload_n hx hb d_M_widthOf_249 rfl (lv_at hl 3 rfl) ?_
      refine n_iald hx hb hK hP 6 0 rfl rfl (i := j) (by omega) (by omega) d_M_widthOf_250 ?_
      refine n_add hx hb d_M_widthOf_251 ?_
      refine lv_iconst (v := nI 4) hx hb d_M_widthOf_252 (by decide) ?_
      refine z_icmp_gt (tgt := 272) hx hb (nI_toInt (by omega)) (nI_toInt (by omega)) d_M_widthOf_253 (by decide) (fun c_253 => ?_) (fun c_253 => ?_)
      · refine lv_iconst (v := nI 0) hx hb d_M_widthOf_272 (by decide) ?_
        exact fn_iret hx hb hr hlocks hAe hK hP hD hS (congrArg nI (show 0 = jW nt tw (nI i) (nI j) by rw [jW_I hi hj (by omega), if_neg (by omega)])) d_M_widthOf_273
      · refine lv_aload_n hx hb d_M_widthOf_256 rfl (lv_at hl 0 rfl) ?_
        refine va_get (D := D) (ci := 3) (v := .ref (ma 6)) (C := R_M) (T := F_M) (N := 23) hx hb hts in_M hown hK hP 0 rfl rfl 8 (by decide) (hts _ wd_522) (fun _ h9 => h9) rfl d_M_widthOf_257 ?_
        refine lv_iload_n hx hb d_M_widthOf_260 rfl (lv_at hl 2 rfl) ?_
        refine n_iald hx hb hK hP 6 0 rfl rfl (i := i) (by omega) (by omega) d_M_widthOf_261 ?_
        refine lv_aload_n hx hb d_M_widthOf_262 rfl (lv_at hl 0 rfl) ?_
        refine va_get (D := D) (ci := 3) (v := .ref (ma 6)) (C := R_M) (T := F_M) (N := 23) hx hb hts in_M hown hK hP 0 rfl rfl 8 (by decide) (hts _ wd_522) (fun _ h9 => h9) rfl d_M_widthOf_263 ?_
        refine lv_iload_n hx hb d_M_widthOf_266 rfl (lv_at hl 3 rfl) ?_
        refine n_iald hx hb hK hP 6 0 rfl rfl (i := j) (by omega) (by omega) d_M_widthOf_267 ?_
        refine n_add hx hb d_M_widthOf_268 ?_
        refine lv_goto (tgt := 273) hx hb d_M_widthOf_269 (by decide) ?_
        exact fn_iret hx hb hr hlocks hAe hK hP hD hS (congrArg nI (show tw i + tw j = jW nt tw (nI i) (nI j) by rw [jW_I hi hj (by omega), if_pos (by omega)])) d_M_widthOf_273
set_option maxHeartbeats 4000000 in
set_option maxRecDepth 100000 in
theorem c_M_widthOf_14 (l : Launch) (D : va_G) (ma : Nat → Nat) (cI cZ : ClassId) (th nv nb nt nf na lv nm : Nat) (vw tk ta : Nat → Nat) (tb tc : Nat → Int32) (tw fk fa : Nat → Nat) (fb : Nat → Int32) (od sd aa am vl : Nat → Nat) (ho : Nat → Bool) (hok : Mok nv nb nt nf na lv nm vw tk ta tb tc tw fk fa fb od sd am vl) (ka kb kc : Int32) : Fn l y_M_widthOf (wk y_M_widthOf b_M_widthOf 5 (some .int)) rm_M_widthOf D cls [(cI, .int), (cZ, .boolean)] [.ref (ma 0), .int (nI 14), .int ka, .int kb, .int kc] (mW ma cI cZ th nv nb nt nf na lv nm vw tk ta tb tc tw fk fa fb od sd aa am vl ho) XT (some (.int (nI (pWk nv nt nf vw tw 14 ka kb kc)))) (mW ma cI cZ th nv nb nt nf na lv nm vw tk ta tb tc tw fk fa fb od sd aa am vl ho) := by
  refine Fn.of (by decide) rfl (Nat.le_of_ble_eq_true rfl) ?_
  intro p e s m below meth c A ls hx hb hml hr hts0 hown hlocks hnm hP hK hD hS hA hAe hX hl
  have hts : ∀ w ∈ lw_ok, w.before _ s = true := fun w h => hts0 w (List.mem_cons_of_mem _ h)
  have hown : s.vm.findClass R_M = some m.cls := hown
  have hP : va_P D cls (mW ma cI cZ th nv nb nt nf na lv nm vw tk ta tb tc tw fk fa fb od sd aa am vl ho) s.heap := hP
  have hl : lv_has ls 5 [(0, .ref (ma 0)), (1, .int (nI 14)), (2, .int ka), (3, .int kb), (4, .int kc)] := hl
  obtain ⟨o_nv, o_nb, o_nt, o_nf, o_na, o_lv, o_nm, o_vw, o_tw, o_am, o_sd, o_T, o_F, o_od, o_vl⟩ := id hok
  refine lv_iload_n hx hb d_M_widthOf_0 rfl (lv_at hl 1 rfl) ?_
  refine lv_tableIn (tgt := 274) (off := 273) hx hb d_M_widthOf_1 (by decide +kernel) (by decide +kernel) (by decide +kernel) (by decide) ?_
  refine lv_aload_n hx hb d_M_widthOf_274 rfl (lv_at hl 0 rfl) ?_
  refine lv_iload_n hx hb d_M_widthOf_275 rfl (lv_at hl 2 rfl) ?_
  refine fn_V (ws' := (mW ma cI cZ th nv nb nt nf na lv nm vw tk ta tb tc tw fk fa fb od sd aa am vl ho)) (w1 := (mW ma cI cZ th nv nb nt nf na lv nm vw tk ta tb tc tw fk fa fb od sd aa am vl ho)) (wc := (mW ma cI cZ th nv nb nt nf na lv nm vw tk ta tb tc tw fk fa fb od sd aa am vl ho)) (wr := []) ⟨hx, hb, hml, hown, hts⟩ (c_M_isTerm l D ma cI cZ th nv nb nt nf na lv nm vw tk ta tb tc tw fk fa fb od sd aa am vl ho hok ka) ⟨callB_of 1 hts (gW wd_615) rfl rfl rfl (hts _ wd_4) (hts _ wd_612) hd_M_isTerm ⟨Nat.le_of_ble_eq_true rfl, Nat.le_of_ble_eq_true rfl⟩, hts _ wd_614, hts _ wd_p25⟩ XT_ok (fun _ _ _ => trivial) hK hP hD hS hA 0 3 rfl rfl rfl [0, 1] [0, 1, 2, 3, 4, 5, 6, 7, 8, 9, 10, 11, 12, 13, 14, 15] [] [0, 1, 2, 3, 4, 5, 6, 7, 8, 9, 10, 11, 12, 13, 14, 15] rfl rfl rfl rfl rfl (by decide) rfl rfl rfl hl.1 rfl (Nat.le_of_ble_eq_true rfl) d_M_widthOf_276 ⟨Nat.zero_le _, Nat.zero_le _⟩ (st1 := [.int (bI (hasB ka nt))]) rfl (fun H locs hP hD hS => ?_)
  refine b_if_eq (tgt := 312) hx hb d_M_widthOf_279 (by decide) (fun c_279 => ?_) (fun c_279 => ?_)
  · refine lv_iconst (v := nI 0) hx hb d_M_widthOf_312 (by decide) ?_
    exact fn_iret hx hb hr hlocks hAe hK hP hD hS (congrArg nI (if_neg (by rw [tW_no c_279]; omega)).symm) d_M_widthOf_313
  · obtain ⟨i, hi, rfl⟩ := hasB_nat c_279
    have oi := o_tw i hi
    have eT := tW_I (nt := nt) (tw := tw) hi (by omega)
    refine lv_iload_n hx hb d_M_widthOf_282 rfl (lv_at hl 3 rfl) ?_
    refine z_if_lt (tgt := 312) hx hb rfl d_M_widthOf_283 (by decide) (fun c_283 => ?_) (fun c_283 => ?_)
    · refine lv_iconst (v := nI 0) hx hb d_M_widthOf_312 (by decide) ?_
      exact fn_iret hx hb hr hlocks hAe hK hP hD hS (congrArg nI (if_neg (by rw [eT]; omega)).symm) d_M_widthOf_313
    · refine lv_iload_n hx hb d_M_widthOf_286 rfl (lv_at hl 3 rfl) ?_
      refine lv_iload hx hb d_M_widthOf_287 (lv_at hl 4 rfl) ?_
      refine z_icmp_gt (tgt := 312) hx hb rfl rfl d_M_widthOf_289 (by decide) (fun c_289 => ?_) (fun c_289 => ?_)
      · refine lv_iconst (v := nI 0) hx hb d_M_widthOf_312 (by decide) ?_
        exact fn_iret hx hb hr hlocks hAe hK hP hD hS (congrArg nI (if_neg (by rw [eT]; omega)).symm) d_M_widthOf_313
      · refine lv_iload hx hb d_M_widthOf_292 (lv_at hl 4 rfl) ?_
        refine lv_aload_n hx hb d_M_widthOf_294 rfl (lv_at hl 0 rfl) ?_
        refine va_get (D := D) (ci := 3) (v := .ref (ma 6)) (C := R_M) (T := F_M) (N := 23) hx hb hts in_M hown hK hP 0 rfl rfl 8 (by decide) (hts _ wd_522) (fun _ h9 => h9) rfl d_M_widthOf_295 ?_
        refine lv_iload_n hx hb d_M_widthOf_298 rfl (lv_at hl 2 rfl) ?_
        refine n_iald hx hb hK hP 6 0 rfl rfl (i := i) (by omega) (by omega) d_M_widthOf_299 ?_
        refine z_icmp_ge (tgt := 312) hx hb rfl (nI_toInt (by omega)) d_M_widthOf_300 (by decide) (fun c_300 => ?_) (fun c_300 => ?_)
        · refine lv_iconst (v := nI 0) hx hb d_M_widthOf_312 (by decide) ?_
          exact fn_iret hx hb hr hlocks hAe hK hP hD hS (congrArg nI (if_neg (by rw [eT]; omega)).symm) d_M_widthOf_313
        · obtain ⟨q, hq, rfl⟩ := z_nat (x := kc) (n := 4) (by omega) (by omega)
          have eq := nI_toInt (n := q) (by omega)
          obtain ⟨j, hj, rfl⟩ := z_nat (x := kb) (n := 4) (by omega) (by omega)
          have ej := nI_toInt (n := j) (by omega)
          refine lv_iload hx hb d_M_widthOf_303 (lv_at hl 4 rfl) ?_
          refine lv_iload_n hx hb d_M_widthOf_305 rfl (lv_at hl 3 rfl) ?_
          refine n_sub hx hb (by omega) d_M_widthOf_306 ?_
          refine lv_iconst (v := nI 1) hx hb d_M_widthOf_307 (by decide) ?_
          refine n_add hx hb d_M_widthOf_308 ?_
          refine lv_goto (tgt := 313) hx hb d_M_widthOf_309 (by decide) ?_
          exact fn_iret hx hb hr hlocks hAe hK hP hD hS (congrArg nI ((if_pos (by rw [eT]; exact ⟨by omega, by omega, by omega⟩)).trans (by omega)).symm) d_M_widthOf_313
set_option maxHeartbeats 4000000 in
set_option maxRecDepth 100000 in
theorem c_M_widthOf_out (l : Launch) (D : va_G) (ma : Nat → Nat) (cI cZ : ClassId) (th nv nb nt nf na lv nm : Nat) (vw tk ta : Nat → Nat) (tb tc : Nat → Int32) (tw fk fa : Nat → Nat) (fb : Nat → Int32) (od sd aa am vl : Nat → Nat) (ho : Nat → Bool) (hok : Mok nv nb nt nf na lv nm vw tk ta tb tc tw fk fa fb od sd am vl) (kd ka kb kc : Int32) (hk : kd.toInt < 0 ∨ 14 < kd.toInt) : Fn l y_M_widthOf (wk y_M_widthOf b_M_widthOf 5 (some .int)) rm_M_widthOf D cls [(cI, .int), (cZ, .boolean)] [.ref (ma 0), .int kd, .int ka, .int kb, .int kc] (mW ma cI cZ th nv nb nt nf na lv nm vw tk ta tb tc tw fk fa fb od sd aa am vl ho) XT (some (.int (nI 0))) (mW ma cI cZ th nv nb nt nf na lv nm vw tk ta tb tc tw fk fa fb od sd aa am vl ho) := by
  refine Fn.of (by decide) rfl (Nat.le_of_ble_eq_true rfl) ?_
  intro p e s m below meth c A ls hx hb hml hr hts0 hown hlocks hnm hP hK hD hS hA hAe hX hl
  have hts : ∀ w ∈ lw_ok, w.before _ s = true := fun w h => hts0 w (List.mem_cons_of_mem _ h)
  have hown : s.vm.findClass R_M = some m.cls := hown
  have hP : va_P D cls (mW ma cI cZ th nv nb nt nf na lv nm vw tk ta tb tc tw fk fa fb od sd aa am vl ho) s.heap := hP
  have hl : lv_has ls 5 [(0, .ref (ma 0)), (1, .int kd), (2, .int ka), (3, .int kb), (4, .int kc)] := hl
  obtain ⟨o_nv, o_nb, o_nt, o_nf, o_na, o_lv, o_nm, o_vw, o_tw, o_am, o_sd, o_T, o_F, o_od, o_vl⟩ := id hok
  refine lv_iload_n hx hb d_M_widthOf_0 rfl (lv_at hl 1 rfl) ?_
  refine lv_tableOut (tgt := 314) hx hb d_M_widthOf_1 hk (by decide) ?_
  refine lv_iconst (v := nI 0) hx hb d_M_widthOf_314 (by decide) ?_
  exact fn_iret hx hb hr hlocks hAe hK hP hD hS rfl d_M_widthOf_315
set_option maxHeartbeats 4000000 in
set_option maxRecDepth 100000 in
theorem c_M_widthOf (l : Launch) (D : va_G) (ma : Nat → Nat) (cI cZ : ClassId) (th nv nb nt nf na lv nm : Nat) (vw tk ta : Nat → Nat) (tb tc : Nat → Int32) (tw fk fa : Nat → Nat) (fb : Nat → Int32) (od sd aa am vl : Nat → Nat) (ho : Nat → Bool) (hok : Mok nv nb nt nf na lv nm vw tk ta tb tc tw fk fa fb od sd am vl) (kd ka kb kc : Int32) : Fn l y_M_widthOf (wk y_M_widthOf b_M_widthOf 5 (some .int)) rm_M_widthOf D cls [(cI, .int), (cZ, .boolean)] [.ref (ma 0), .int kd, .int ka, .int kb, .int kc] (mW ma cI cZ th nv nb nt nf na lv nm vw tk ta tb tc tw fk fa fb od sd aa am vl ho) XT (some (.int (nI (pW nv nt nf vw tw kd ka kb kc)))) (mW ma cI cZ th nv nb nt nf na lv nm vw tk ta tb tc tw fk fa fb od sd aa am vl ho) := by
  by_cases h : 0 ≤ kd.toInt ∧ kd.toInt ≤ 14
  · obtain ⟨j, hj, rfl⟩ := z_nat (x := kd) (n := 15) h.1 (by omega)
    have e : pW nv nt nf vw tw (nI j) ka kb kc = pWk nv nt nf vw tw j ka kb kc := by
      unfold pW
      rw [if_pos h, nI_toInt (by omega)]
      rfl
    rw [e]
    rcases (show j = 0 ∨ j = 1 ∨ j = 2 ∨ j = 3 ∨ j = 4 ∨ j = 5 ∨ j = 6 ∨ j = 7 ∨ j = 8 ∨ j = 9 ∨ j = 10 ∨ j = 11 ∨ j = 12 ∨ j = 13 ∨ j = 14 by omega) with rfl | rfl | rfl | rfl | rfl | rfl | rfl | rfl | rfl | rfl | rfl | rfl | rfl | rfl | rfl
    · exact c_M_widthOf_0 l D ma cI cZ th nv nb nt nf na lv nm vw tk ta tb tc tw fk fa fb od sd aa am vl ho hok ka kb kc
    · exact c_M_widthOf_1 l D ma cI cZ th nv nb nt nf na lv nm vw tk ta tb tc tw fk fa fb od sd aa am vl ho hok ka kb kc
    · exact c_M_widthOf_2 l D ma cI cZ th nv nb nt nf na lv nm vw tk ta tb tc tw fk fa fb od sd aa am vl ho hok ka kb kc
    · exact c_M_widthOf_3 l D ma cI cZ th nv nb nt nf na lv nm vw tk ta tb tc tw fk fa fb od sd aa am vl ho hok ka kb kc
    · exact c_M_widthOf_4 l D ma cI cZ th nv nb nt nf na lv nm vw tk ta tb tc tw fk fa fb od sd aa am vl ho hok ka kb kc
    · exact c_M_widthOf_5 l D ma cI cZ th nv nb nt nf na lv nm vw tk ta tb tc tw fk fa fb od sd aa am vl ho hok ka kb kc
    · exact c_M_widthOf_6 l D ma cI cZ th nv nb nt nf na lv nm vw tk ta tb tc tw fk fa fb od sd aa am vl ho hok ka kb kc
    · exact c_M_widthOf_7 l D ma cI cZ th nv nb nt nf na lv nm vw tk ta tb tc tw fk fa fb od sd aa am vl ho hok ka kb kc
    · exact c_M_widthOf_8 l D ma cI cZ th nv nb nt nf na lv nm vw tk ta tb tc tw fk fa fb od sd aa am vl ho hok ka kb kc
    · exact c_M_widthOf_9 l D ma cI cZ th nv nb nt nf na lv nm vw tk ta tb tc tw fk fa fb od sd aa am vl ho hok ka kb kc
    · exact c_M_widthOf_10 l D ma cI cZ th nv nb nt nf na lv nm vw tk ta tb tc tw fk fa fb od sd aa am vl ho hok ka kb kc
    · exact c_M_widthOf_11 l D ma cI cZ th nv nb nt nf na lv nm vw tk ta tb tc tw fk fa fb od sd aa am vl ho hok ka kb kc
    · exact c_M_widthOf_12 l D ma cI cZ th nv nb nt nf na lv nm vw tk ta tb tc tw fk fa fb od sd aa am vl ho hok ka kb kc
    · exact c_M_widthOf_13 l D ma cI cZ th nv nb nt nf na lv nm vw tk ta tb tc tw fk fa fb od sd aa am vl ho hok ka kb kc
    · exact c_M_widthOf_14 l D ma cI cZ th nv nb nt nf na lv nm vw tk ta tb tc tw fk fa fb od sd aa am vl ho hok ka kb kc
  · rw [show pW nv nt nf vw tw kd ka kb kc = 0 from if_neg h]
    exact c_M_widthOf_out l D ma cI cZ th nv nb nt nf na lv nm vw tk ta tb tc tw fk fa fb od sd aa am vl ho hok kd ka kb kc (by omega)
set_option maxHeartbeats 4000000 in
set_option maxRecDepth 100000 in
theorem c_M_term_0 (l : Launch) (D : va_G) (ma : Nat → Nat) (cI cZ : ClassId) (th nv nb nt nf na lv nm : Nat) (vw tk ta : Nat → Nat) (tb tc : Nat → Int32) (tw fk fa : Nat → Nat) (fb : Nat → Int32) (od sd aa am vl : Nat → Nat) (ho : Nat → Bool) (hok : Mok nv nb nt nf na lv nm vw tk ta tb tc tw fk fa fb od sd am vl) (k a : Nat) (kb kc : Int32) (wd : Nat) (hw : pW nv nt nf vw tw (nI k) (nI a) kb kc = wd) (h1 : 1 ≤ wd) (h4 : wd ≤ 4) (hnt : nt < 50) : Fn l y_M_term (wk y_M_term b_M_term 6 (some .int)) rm_M_term D cls [(cI, .int), (cZ, .boolean)] [.ref (ma 0), .int (nI k), .int (nI a), .int kb, .int kc] (mW ma cI cZ th nv nb nt nf na lv nm vw tk ta tb tc tw fk fa fb od sd aa am vl ho) XT (some (.int (nI nt))) (mW ma cI cZ 0 nv nb (nt + 1) nf na lv nm vw (updN tk nt k) (updN ta nt a) (upd tb nt kb) (upd tc nt kc) (updN tw nt wd) fk fa fb (updN od (nt + nf) nt) sd aa am vl ho) := by
  refine Fn.of (by decide) rfl (Nat.le_of_ble_eq_true rfl) ?_
  intro p e s m below meth c A ls hx hb hml hr hts0 hown hlocks hnm hP hK hD hS hA hAe hX hl
  have hts : ∀ w ∈ lw_ok, w.before _ s = true := fun w h => hts0 w (List.mem_cons_of_mem _ h)
  have hown : s.vm.findClass R_M = some m.cls := hown
  have hP : va_P D cls (mW ma cI cZ th nv nb nt nf na lv nm vw tk ta tb tc tw fk fa fb od sd aa am vl ho) s.heap := hP
  have hl : lv_has ls 6 [(0, .ref (ma 0)), (1, .int (nI k)), (2, .int (nI a)), (3, .int kb), (4, .int kc)] := hl
  obtain ⟨o_nv, o_nb, o_nt, o_nf, o_na, o_lv, o_nm, o_vw, o_tw, o_am, o_sd, o_T, o_F, o_od, o_vl⟩ := id hok
  refine lv_aload_n hx hb d_M_term_0 rfl (lv_at hl 0 rfl) ?_
  refine lv_iconst (v := nI 0) hx hb d_M_term_1 (by decide) ?_
  refine va_put (D := D) (ci := 3) (v := .int (nI 0)) (ty := .int) (C := R_M) (T := F_M) (N := 23) hx hb hts in_M t_M tok_M nm_M hown hK hP hD hS 0 rfl rfl 0 (by decide) (hts _ wd_514) (fun _ h9 => h9) rfl (by decide +kernel) rfl rfl (Nat.le_of_ble_eq_true rfl) d_M_term_2 (fun H locs hP hD hS => ?_)
  have hP : va_P D cls (mW ma cI cZ 0 nv nb nt nf na lv nm vw tk ta tb tc tw fk fa fb od sd aa am vl ho) H := hP
  have hD : va_D A (mW ma cI cZ 0 nv nb nt nf na lv nm vw tk ta tb tc tw fk fa fb od sd aa am vl ho) := hD
  refine lv_aload_n hx hb d_M_term_5 rfl (lv_at hl 0 rfl) ?_
  refine lv_iload_n hx hb d_M_term_6 rfl (lv_at hl 1 rfl) ?_
  refine lv_iload_n hx hb d_M_term_7 rfl (lv_at hl 2 rfl) ?_
  refine lv_iload_n hx hb d_M_term_8 rfl (lv_at hl 3 rfl) ?_
  refine lv_iload hx hb d_M_term_9 (lv_at hl 4 rfl) ?_
  refine fn_V (ws' := (mW ma cI cZ 0 nv nb nt nf na lv nm vw tk ta tb tc tw fk fa fb od sd aa am vl ho)) (w1 := (mW ma cI cZ 0 nv nb nt nf na lv nm vw tk ta tb tc tw fk fa fb od sd aa am vl ho)) (wc := (mW ma cI cZ 0 nv nb nt nf na lv nm vw tk ta tb tc tw fk fa fb od sd aa am vl ho)) (wr := []) ⟨hx, hb, hml, hown, hts⟩ (c_M_widthOf l D ma cI cZ 0 nv nb nt nf na lv nm vw tk ta tb tc tw fk fa fb od sd aa am vl ho hok (nI k) (nI a) kb kc) ⟨callB_of 4 hts (gW wd_607) rfl rfl rfl (hts _ wd_4) (hts _ wd_604) hd_M_widthOf ⟨Nat.le_of_ble_eq_true rfl, Nat.le_of_ble_eq_true rfl⟩, hts _ wd_606, hts _ wd_p23⟩ XT_ok (fun _ _ _ => trivial) hK hP hD hS hA 0 3 rfl rfl rfl [0, 1] [0, 1, 2, 3, 4, 5, 6, 7, 8, 9, 10, 11, 12, 13, 14, 15] [] [0, 1, 2, 3, 4, 5, 6, 7, 8, 9, 10, 11, 12, 13, 14, 15] rfl rfl rfl rfl rfl (by decide) rfl rfl rfl hl.1 rfl (Nat.le_of_ble_eq_true rfl) d_M_term_11 ⟨Nat.zero_le _, Nat.zero_le _⟩ (st1 := [.int (nI (pW nv nt nf vw tw (nI k) (nI a) kb kc))]) rfl (fun H locs hP hD hS => ?_)
  rw [hw]
  refine lv_istore (lv' := [(5, .int (nI wd)), (0, .ref (ma 0)), (1, .int (nI k)), (2, .int (nI a)), (3, .int kb), (4, .int kc)]) hx hb d_M_term_14 hl (by decide) rfl (fun ls hl => ?_)
  refine lv_iload hx hb d_M_term_16 (lv_at hl 0 rfl) ?_
  refine z_if_ne (tgt := 27) hx hb (nI_toInt (by omega)) d_M_term_18 (by decide) (fun c_18 => ?_) (fun c_18 => ?_)
  · refine lv_aload_n hx hb d_M_term_27 rfl (lv_at hl 1 rfl) ?_
    refine va_get (D := D) (ci := 3) (v := .int (nI nt)) (C := R_M) (T := F_M) (N := 23) hx hb hts in_M hown hK hP 0 rfl rfl 9 (by decide) (hts _ wd_523) (fun _ h9 => h9) rfl d_M_term_28 ?_
    refine lv_bipush (v := nI 50) hx hb d_M_term_31 (by decide) ?_
    refine z_icmp_ne (tgt := 42) hx hb (nI_toInt (by omega)) (nI_toInt (by omega)) d_M_term_33 (by decide) (fun c_33 => ?_) (fun c_33 => ?_)
    · refine lv_aload_n hx hb d_M_term_42 rfl (lv_at hl 1 rfl) ?_
      refine va_get (D := D) (ci := 3) (v := .ref (ma 2)) (C := R_M) (T := F_M) (N := 23) hx hb hts in_M hown hK hP 0 rfl rfl 4 (by decide) (hts _ wd_518) (fun _ h9 => h9) rfl d_M_term_43 ?_
      refine lv_aload_n hx hb d_M_term_46 rfl (lv_at hl 1 rfl) ?_
      refine va_get (D := D) (ci := 3) (v := .int (nI nt)) (C := R_M) (T := F_M) (N := 23) hx hb hts in_M hown hK hP 0 rfl rfl 9 (by decide) (hts _ wd_523) (fun _ h9 => h9) rfl d_M_term_47 ?_
      refine lv_iload_n hx hb d_M_term_50 rfl (lv_at hl 2 rfl) ?_
      refine n_iast hx hb hK hP hD hS 2 0 rfl rfl (i := nt) (by omega) (by omega) (updN_I _ _ _) d_M_term_51 (ws' := (mW ma cI cZ 0 nv nb nt nf na lv nm vw (updN tk nt k) ta tb tc tw fk fa fb od sd aa am vl ho)) rfl (fun H locs hP hD hS => ?_)
      refine lv_aload_n hx hb d_M_term_52 rfl (lv_at hl 1 rfl) ?_
      refine va_get (D := D) (ci := 3) (v := .ref (ma 3)) (C := R_M) (T := F_M) (N := 23) hx hb hts in_M hown hK hP 0 rfl rfl 5 (by decide) (hts _ wd_519) (fun _ h9 => h9) rfl d_M_term_53 ?_
      refine lv_aload_n hx hb d_M_term_56 rfl (lv_at hl 1 rfl) ?_
      refine va_get (D := D) (ci := 3) (v := .int (nI nt)) (C := R_M) (T := F_M) (N := 23) hx hb hts in_M hown hK hP 0 rfl rfl 9 (by decide) (hts _ wd_523) (fun _ h9 => h9) rfl d_M_term_57 ?_
      refine lv_iload_n hx hb d_M_term_60 rfl (lv_at hl 3 rfl) ?_
      refine n_iast hx hb hK hP hD hS 3 0 rfl rfl (i := nt) (by omega) (by omega) (updN_I _ _ _) d_M_term_61 (ws' := (mW ma cI cZ 0 nv nb nt nf na lv nm vw (updN tk nt k) (updN ta nt a) tb tc tw fk fa fb od sd aa am vl ho)) rfl (fun H locs hP hD hS => ?_)
      refine lv_aload_n hx hb d_M_term_62 rfl (lv_at hl 1 rfl) ?_
      refine va_get (D := D) (ci := 3) (v := .ref (ma 4)) (C := R_M) (T := F_M) (N := 23) hx hb hts in_M hown hK hP 0 rfl rfl 6 (by decide) (hts _ wd_520) (fun _ h9 => h9) rfl d_M_term_63 ?_
      refine lv_aload_n hx hb d_M_term_66 rfl (lv_at hl 1 rfl) ?_
      refine va_get (D := D) (ci := 3) (v := .int (nI nt)) (C := R_M) (T := F_M) (N := 23) hx hb hts in_M hown hK hP 0 rfl rfl 9 (by decide) (hts _ wd_523) (fun _ h9 => h9) rfl d_M_term_67 ?_
      refine lv_iload_n hx hb d_M_term_70 rfl (lv_at hl 4 rfl) ?_
      refine n_iast hx hb hK hP hD hS 4 0 rfl rfl (i := nt) (by omega) (by omega) rfl d_M_term_71 (ws' := (mW ma cI cZ 0 nv nb nt nf na lv nm vw (updN tk nt k) (updN ta nt a) (upd tb nt kb) tc tw fk fa fb od sd aa am vl ho)) rfl (fun H locs hP hD hS => ?_)
      refine lv_aload_n hx hb d_M_term_72 rfl (lv_at hl 1 rfl) ?_
      refine va_get (D := D) (ci := 3) (v := .ref (ma 5)) (C := R_M) (T := F_M) (N := 23) hx hb hts in_M hown hK hP 0 rfl rfl 7 (by decide) (hts _ wd_521) (fun _ h9 => h9) rfl d_M_term_73 ?_
      refine lv_aload_n hx hb d_M_term_76 rfl (lv_at hl 1 rfl) ?_
      refine va_get (D := D) (ci := 3) (v := .int (nI nt)) (C := R_M) (T := F_M) (N := 23) hx hb hts in_M hown hK hP 0 rfl rfl 9 (by decide) (hts _ wd_523) (fun _ h9 => h9) rfl d_M_term_77 ?_
      refine lv_iload hx hb d_M_term_80 (lv_at hl 5 rfl) ?_
      refine n_iast hx hb hK hP hD hS 5 0 rfl rfl (i := nt) (by omega) (by omega) rfl d_M_term_82 (ws' := (mW ma cI cZ 0 nv nb nt nf na lv nm vw (updN tk nt k) (updN ta nt a) (upd tb nt kb) (upd tc nt kc) tw fk fa fb od sd aa am vl ho)) rfl (fun H locs hP hD hS => ?_)
      refine lv_aload_n hx hb d_M_term_83 rfl (lv_at hl 1 rfl) ?_
      refine va_get (D := D) (ci := 3) (v := .ref (ma 6)) (C := R_M) (T := F_M) (N := 23) hx hb hts in_M hown hK hP 0 rfl rfl 8 (by decide) (hts _ wd_522) (fun _ h9 => h9) rfl d_M_term_84 ?_
      refine lv_aload_n hx hb d_M_term_87 rfl (lv_at hl 1 rfl) ?_
      refine va_get (D := D) (ci := 3) (v := .int (nI nt)) (C := R_M) (T := F_M) (N := 23) hx hb hts in_M hown hK hP 0 rfl rfl 9 (by decide) (hts _ wd_523) (fun _ h9 => h9) rfl d_M_term_88 ?_
      refine lv_iload hx hb d_M_term_91 (lv_at hl 0 rfl) ?_
      refine n_iast hx hb hK hP hD hS 6 0 rfl rfl (i := nt) (by omega) (by omega) (updN_I _ _ _) d_M_term_93 (ws' := (mW ma cI cZ 0 nv nb nt nf na lv nm vw (updN tk nt k) (updN ta nt a) (upd tb nt kb) (upd tc nt kc) (updN tw nt wd) fk fa fb od sd aa am vl ho)) rfl (fun H locs hP hD hS => ?_)
      refine lv_aload_n hx hb d_M_term_94 rfl (lv_at hl 1 rfl) ?_
      refine va_get (D := D) (ci := 3) (v := .ref (ma 10)) (C := R_M) (T := F_M) (N := 23) hx hb hts in_M hown hK hP 0 rfl rfl 14 (by decide) (hts _ wd_528) (fun _ h9 => h9) rfl d_M_term_95 ?_
      refine lv_aload_n hx hb d_M_term_98 rfl (lv_at hl 1 rfl) ?_
      refine va_get (D := D) (ci := 3) (v := .int (nI nt)) (C := R_M) (T := F_M) (N := 23) hx hb hts in_M hown hK hP 0 rfl rfl 9 (by decide) (hts _ wd_523) (fun _ h9 => h9) rfl d_M_term_99 ?_
      refine lv_aload_n hx hb d_M_term_102 rfl (lv_at hl 1 rfl) ?_
      refine va_get (D := D) (ci := 3) (v := .int (nI nf)) (C := R_M) (T := F_M) (N := 23) hx hb hts in_M hown hK hP 0 rfl rfl 13 (by decide) (hts _ wd_527) (fun _ h9 => h9) rfl d_M_term_103 ?_
      refine n_add hx hb d_M_term_106 ?_
      refine lv_aload_n hx hb d_M_term_107 rfl (lv_at hl 1 rfl) ?_
      refine va_get (D := D) (ci := 3) (v := .int (nI nt)) (C := R_M) (T := F_M) (N := 23) hx hb hts in_M hown hK hP 0 rfl rfl 9 (by decide) (hts _ wd_523) (fun _ h9 => h9) rfl d_M_term_108 ?_
      refine n_iast hx hb hK hP hD hS 10 0 rfl rfl (i := nt + nf) (by omega) (by omega) (updN_I _ _ _) d_M_term_111 (ws' := (mW ma cI cZ 0 nv nb nt nf na lv nm vw (updN tk nt k) (updN ta nt a) (upd tb nt kb) (upd tc nt kc) (updN tw nt wd) fk fa fb (updN od (nt + nf) nt) sd aa am vl ho)) rfl (fun H locs hP hD hS => ?_)
      refine lv_aload_n hx hb d_M_term_112 rfl (lv_at hl 1 rfl) ?_
      refine lv_dup hx hb d_M_term_113 rfl ?_
      refine va_get (D := D) (ci := 3) (v := .int (nI nt)) (C := R_M) (T := F_M) (N := 23) hx hb hts in_M hown hK hP 0 rfl rfl 9 (by decide) (hts _ wd_523) (fun _ h9 => h9) rfl d_M_term_114 ?_
      refine lv_iconst (v := nI 1) hx hb d_M_term_117 (by decide) ?_
      refine n_add hx hb d_M_term_118 ?_
      refine va_put (D := D) (ci := 3) (v := .int (nI (nt + 1))) (ty := .int) (C := R_M) (T := F_M) (N := 23) hx hb hts in_M t_M tok_M nm_M hown hK hP hD hS 0 rfl rfl 9 (by decide) (hts _ wd_523) (fun _ h9 => h9) rfl (by decide +kernel) rfl rfl (Nat.le_of_ble_eq_true rfl) d_M_term_119 (fun H locs hP hD hS => ?_)
      have hP : va_P D cls (mW ma cI cZ 0 nv nb (nt + 1) nf na lv nm vw (updN tk nt k) (updN ta nt a) (upd tb nt kb) (upd tc nt kc) (updN tw nt wd) fk fa fb (updN od (nt + nf) nt) sd aa am vl ho) H := hP
      have hD : va_D A (mW ma cI cZ 0 nv nb (nt + 1) nf na lv nm vw (updN tk nt k) (updN ta nt a) (upd tb nt kb) (upd tc nt kc) (updN tw nt wd) fk fa fb (updN od (nt + nf) nt) sd aa am vl ho) := hD
      refine lv_aload_n hx hb d_M_term_122 rfl (lv_at hl 1 rfl) ?_
      refine va_get (D := D) (ci := 3) (v := .int (nI (nt + 1))) (C := R_M) (T := F_M) (N := 23) hx hb hts in_M hown hK hP 0 rfl rfl 9 (by decide) (hts _ wd_523) (fun _ h9 => h9) rfl d_M_term_123 ?_
      refine lv_iconst (v := nI 1) hx hb d_M_term_126 (by decide) ?_
      refine n_sub hx hb (by omega) d_M_term_127 ?_
      exact fn_iret hx hb hr hlocks hAe hK hP hD hS (by rw [Nat.add_sub_cancel]) d_M_term_128
    · exact absurd c_33 (by omega)
  · exact absurd c_18 (by omega)
set_option maxHeartbeats 4000000 in
set_option maxRecDepth 100000 in
theorem c_M_term_1 (l : Launch) (D : va_G) (ma : Nat → Nat) (cI cZ : ClassId) (th nv nb nt nf na lv nm : Nat) (vw tk ta : Nat → Nat) (tb tc : Nat → Int32) (tw fk fa : Nat → Nat) (fb : Nat → Int32) (od sd aa am vl : Nat → Nat) (ho : Nat → Bool) (hok : Mok nv nb nt nf na lv nm vw tk ta tb tc tw fk fa fb od sd am vl) (kd ka kb kc : Int32) (hw : pW nv nt nf vw tw kd ka kb kc = 0) : Fn l y_M_term (wk y_M_term b_M_term 6 (some .int)) rm_M_term D cls [(cI, .int), (cZ, .boolean)] [.ref (ma 0), .int kd, .int ka, .int kb, .int kc] (mW ma cI cZ th nv nb nt nf na lv nm vw tk ta tb tc tw fk fa fb od sd aa am vl ho) XT (some (.int (nI 0))) (mW ma cI cZ 1 nv nb nt nf na lv nm vw tk ta tb tc tw fk fa fb od sd aa am vl ho) := by
  refine Fn.of (by decide) rfl (Nat.le_of_ble_eq_true rfl) ?_
  intro p e s m below meth c A ls hx hb hml hr hts0 hown hlocks hnm hP hK hD hS hA hAe hX hl
  have hts : ∀ w ∈ lw_ok, w.before _ s = true := fun w h => hts0 w (List.mem_cons_of_mem _ h)
  have hown : s.vm.findClass R_M = some m.cls := hown
  have hP : va_P D cls (mW ma cI cZ th nv nb nt nf na lv nm vw tk ta tb tc tw fk fa fb od sd aa am vl ho) s.heap := hP
  have hl : lv_has ls 6 [(0, .ref (ma 0)), (1, .int kd), (2, .int ka), (3, .int kb), (4, .int kc)] := hl
  obtain ⟨o_nv, o_nb, o_nt, o_nf, o_na, o_lv, o_nm, o_vw, o_tw, o_am, o_sd, o_T, o_F, o_od, o_vl⟩ := id hok
  refine lv_aload_n hx hb d_M_term_0 rfl (lv_at hl 0 rfl) ?_
  refine lv_iconst (v := nI 0) hx hb d_M_term_1 (by decide) ?_
  refine va_put (D := D) (ci := 3) (v := .int (nI 0)) (ty := .int) (C := R_M) (T := F_M) (N := 23) hx hb hts in_M t_M tok_M nm_M hown hK hP hD hS 0 rfl rfl 0 (by decide) (hts _ wd_514) (fun _ h9 => h9) rfl (by decide +kernel) rfl rfl (Nat.le_of_ble_eq_true rfl) d_M_term_2 (fun H locs hP hD hS => ?_)
  have hP : va_P D cls (mW ma cI cZ 0 nv nb nt nf na lv nm vw tk ta tb tc tw fk fa fb od sd aa am vl ho) H := hP
  have hD : va_D A (mW ma cI cZ 0 nv nb nt nf na lv nm vw tk ta tb tc tw fk fa fb od sd aa am vl ho) := hD
  refine lv_aload_n hx hb d_M_term_5 rfl (lv_at hl 0 rfl) ?_
  refine lv_iload_n hx hb d_M_term_6 rfl (lv_at hl 1 rfl) ?_
  refine lv_iload_n hx hb d_M_term_7 rfl (lv_at hl 2 rfl) ?_
  refine lv_iload_n hx hb d_M_term_8 rfl (lv_at hl 3 rfl) ?_
  refine lv_iload hx hb d_M_term_9 (lv_at hl 4 rfl) ?_
  refine fn_V (ws' := (mW ma cI cZ 0 nv nb nt nf na lv nm vw tk ta tb tc tw fk fa fb od sd aa am vl ho)) (w1 := (mW ma cI cZ 0 nv nb nt nf na lv nm vw tk ta tb tc tw fk fa fb od sd aa am vl ho)) (wc := (mW ma cI cZ 0 nv nb nt nf na lv nm vw tk ta tb tc tw fk fa fb od sd aa am vl ho)) (wr := []) ⟨hx, hb, hml, hown, hts⟩ (c_M_widthOf l D ma cI cZ 0 nv nb nt nf na lv nm vw tk ta tb tc tw fk fa fb od sd aa am vl ho hok kd ka kb kc) ⟨callB_of 4 hts (gW wd_607) rfl rfl rfl (hts _ wd_4) (hts _ wd_604) hd_M_widthOf ⟨Nat.le_of_ble_eq_true rfl, Nat.le_of_ble_eq_true rfl⟩, hts _ wd_606, hts _ wd_p23⟩ XT_ok (fun _ _ _ => trivial) hK hP hD hS hA 0 3 rfl rfl rfl [0, 1] [0, 1, 2, 3, 4, 5, 6, 7, 8, 9, 10, 11, 12, 13, 14, 15] [] [0, 1, 2, 3, 4, 5, 6, 7, 8, 9, 10, 11, 12, 13, 14, 15] rfl rfl rfl rfl rfl (by decide) rfl rfl rfl hl.1 rfl (Nat.le_of_ble_eq_true rfl) d_M_term_11 ⟨Nat.zero_le _, Nat.zero_le _⟩ (st1 := [.int (nI (pW nv nt nf vw tw kd ka kb kc))]) rfl (fun H locs hP hD hS => ?_)
  rw [hw]
  refine lv_istore (lv' := [(5, .int (nI 0)), (0, .ref (ma 0)), (1, .int kd), (2, .int ka), (3, .int kb), (4, .int kc)]) hx hb d_M_term_14 hl (by decide) rfl (fun ls hl => ?_)
  refine lv_iload hx hb d_M_term_16 (lv_at hl 0 rfl) ?_
  refine z_if_ne (tgt := 27) hx hb (nI_toInt (by omega)) d_M_term_18 (by decide) (fun c_18 => ?_) (fun c_18 => ?_)
  · exact absurd c_18 (by omega)
  · refine lv_aload_n hx hb d_M_term_21 rfl (lv_at hl 1 rfl) ?_
    refine lv_iconst (v := nI 1) hx hb d_M_term_22 (by decide) ?_
    refine fn_V (ws' := (mW ma cI cZ 1 nv nb nt nf na lv nm vw tk ta tb tc tw fk fa fb od sd aa am vl ho)) (w1 := (mW ma cI cZ 1 nv nb nt nf na lv nm vw tk ta tb tc tw fk fa fb od sd aa am vl ho)) (wc := (mW ma cI cZ 0 nv nb nt nf na lv nm vw tk ta tb tc tw fk fa fb od sd aa am vl ho)) (wr := []) ⟨hx, hb, hml, hown, hts⟩ (c_M_raise l D ma cI cZ 0 nv nb nt nf na lv nm vw tk ta tb tc tw fk fa fb od sd aa am vl ho hok 1) ⟨callB_of 1 hts (gW wd_599) rfl rfl rfl (hts _ wd_4) (hts _ wd_596) hd_M_raise ⟨Nat.le_of_ble_eq_true rfl, Nat.le_of_ble_eq_true rfl⟩, hts _ wd_598, hts _ wd_p22⟩ XT_ok (fun _ _ _ => trivial) hK hP hD hS hA 0 3 rfl rfl rfl [0, 1] [0, 1, 2, 3, 4, 5, 6, 7, 8, 9, 10, 11, 12, 13, 14, 15] [] [0, 1, 2, 3, 4, 5, 6, 7, 8, 9, 10, 11, 12, 13, 14, 15] rfl rfl rfl rfl rfl (by decide) rfl rfl rfl hl.1 rfl (Nat.le_of_ble_eq_true rfl) d_M_term_23 ⟨Nat.zero_le _, Nat.zero_le _⟩ (st1 := [.int (nI 0)]) rfl (fun H locs hP hD hS => ?_)
    exact fn_iret hx hb hr hlocks hAe hK hP hD hS rfl d_M_term_26
set_option maxHeartbeats 4000000 in
set_option maxRecDepth 100000 in
theorem c_M_term_2 (l : Launch) (D : va_G) (ma : Nat → Nat) (cI cZ : ClassId) (th nv nb nt nf na lv nm : Nat) (vw tk ta : Nat → Nat) (tb tc : Nat → Int32) (tw fk fa : Nat → Nat) (fb : Nat → Int32) (od sd aa am vl : Nat → Nat) (ho : Nat → Bool) (hok : Mok nv nb nt nf na lv nm vw tk ta tb tc tw fk fa fb od sd am vl) (kd ka kb kc : Int32) (wd : Nat) (hw : pW nv nt nf vw tw kd ka kb kc = wd) (h1 : 1 ≤ wd) (h4 : wd ≤ 4) (hnt : 50 ≤ nt) : Fn l y_M_term (wk y_M_term b_M_term 6 (some .int)) rm_M_term D cls [(cI, .int), (cZ, .boolean)] [.ref (ma 0), .int kd, .int ka, .int kb, .int kc] (mW ma cI cZ th nv nb nt nf na lv nm vw tk ta tb tc tw fk fa fb od sd aa am vl ho) XT (some (.int (nI 0))) (mW ma cI cZ 2 nv nb nt nf na lv nm vw tk ta tb tc tw fk fa fb od sd aa am vl ho) := by
  refine Fn.of (by decide) rfl (Nat.le_of_ble_eq_true rfl) ?_
  intro p e s m below meth c A ls hx hb hml hr hts0 hown hlocks hnm hP hK hD hS hA hAe hX hl
  have hts : ∀ w ∈ lw_ok, w.before _ s = true := fun w h => hts0 w (List.mem_cons_of_mem _ h)
  have hown : s.vm.findClass R_M = some m.cls := hown
  have hP : va_P D cls (mW ma cI cZ th nv nb nt nf na lv nm vw tk ta tb tc tw fk fa fb od sd aa am vl ho) s.heap := hP
  have hl : lv_has ls 6 [(0, .ref (ma 0)), (1, .int kd), (2, .int ka), (3, .int kb), (4, .int kc)] := hl
  obtain ⟨o_nv, o_nb, o_nt, o_nf, o_na, o_lv, o_nm, o_vw, o_tw, o_am, o_sd, o_T, o_F, o_od, o_vl⟩ := id hok
  refine lv_aload_n hx hb d_M_term_0 rfl (lv_at hl 0 rfl) ?_
  refine lv_iconst (v := nI 0) hx hb d_M_term_1 (by decide) ?_
  refine va_put (D := D) (ci := 3) (v := .int (nI 0)) (ty := .int) (C := R_M) (T := F_M) (N := 23) hx hb hts in_M t_M tok_M nm_M hown hK hP hD hS 0 rfl rfl 0 (by decide) (hts _ wd_514) (fun _ h9 => h9) rfl (by decide +kernel) rfl rfl (Nat.le_of_ble_eq_true rfl) d_M_term_2 (fun H locs hP hD hS => ?_)
  have hP : va_P D cls (mW ma cI cZ 0 nv nb nt nf na lv nm vw tk ta tb tc tw fk fa fb od sd aa am vl ho) H := hP
  have hD : va_D A (mW ma cI cZ 0 nv nb nt nf na lv nm vw tk ta tb tc tw fk fa fb od sd aa am vl ho) := hD
  refine lv_aload_n hx hb d_M_term_5 rfl (lv_at hl 0 rfl) ?_
  refine lv_iload_n hx hb d_M_term_6 rfl (lv_at hl 1 rfl) ?_
  refine lv_iload_n hx hb d_M_term_7 rfl (lv_at hl 2 rfl) ?_
  refine lv_iload_n hx hb d_M_term_8 rfl (lv_at hl 3 rfl) ?_
  refine lv_iload hx hb d_M_term_9 (lv_at hl 4 rfl) ?_
  refine fn_V (ws' := (mW ma cI cZ 0 nv nb nt nf na lv nm vw tk ta tb tc tw fk fa fb od sd aa am vl ho)) (w1 := (mW ma cI cZ 0 nv nb nt nf na lv nm vw tk ta tb tc tw fk fa fb od sd aa am vl ho)) (wc := (mW ma cI cZ 0 nv nb nt nf na lv nm vw tk ta tb tc tw fk fa fb od sd aa am vl ho)) (wr := []) ⟨hx, hb, hml, hown, hts⟩ (c_M_widthOf l D ma cI cZ 0 nv nb nt nf na lv nm vw tk ta tb tc tw fk fa fb od sd aa am vl ho hok kd ka kb kc) ⟨callB_of 4 hts (gW wd_607) rfl rfl rfl (hts _ wd_4) (hts _ wd_604) hd_M_widthOf ⟨Nat.le_of_ble_eq_true rfl, Nat.le_of_ble_eq_true rfl⟩, hts _ wd_606, hts _ wd_p23⟩ XT_ok (fun _ _ _ => trivial) hK hP hD hS hA 0 3 rfl rfl rfl [0, 1] [0, 1, 2, 3, 4, 5, 6, 7, 8, 9, 10, 11, 12, 13, 14, 15] [] [0, 1, 2, 3, 4, 5, 6, 7, 8, 9, 10, 11, 12, 13, 14, 15] rfl rfl rfl rfl rfl (by decide) rfl rfl rfl hl.1 rfl (Nat.le_of_ble_eq_true rfl) d_M_term_11 ⟨Nat.zero_le _, Nat.zero_le _⟩ (st1 := [.int (nI (pW nv nt nf vw tw kd ka kb kc))]) rfl (fun H locs hP hD hS => ?_)
  rw [hw]
  refine lv_istore (lv' := [(5, .int (nI wd)), (0, .ref (ma 0)), (1, .int kd), (2, .int ka), (3, .int kb), (4, .int kc)]) hx hb d_M_term_14 hl (by decide) rfl (fun ls hl => ?_)
  refine lv_iload hx hb d_M_term_16 (lv_at hl 0 rfl) ?_
  refine z_if_ne (tgt := 27) hx hb (nI_toInt (by omega)) d_M_term_18 (by decide) (fun c_18 => ?_) (fun c_18 => ?_)
  · refine lv_aload_n hx hb d_M_term_27 rfl (lv_at hl 1 rfl) ?_
    refine va_get (D := D) (ci := 3) (v := .int (nI nt)) (C := R_M) (T := F_M) (N := 23) hx hb hts in_M hown hK hP 0 rfl rfl 9 (by decide) (hts _ wd_523) (fun _ h9 => h9) rfl d_M_term_28 ?_
    refine lv_bipush (v := nI 50) hx hb d_M_term_31 (by decide) ?_
    refine z_icmp_ne (tgt := 42) hx hb (nI_toInt (by omega)) (nI_toInt (by omega)) d_M_term_33 (by decide) (fun c_33 => ?_) (fun c_33 => ?_)
    · exact absurd c_33 (by omega)
    · refine lv_aload_n hx hb d_M_term_36 rfl (lv_at hl 1 rfl) ?_
      refine lv_iconst (v := nI 2) hx hb d_M_term_37 (by decide) ?_
      refine fn_V (ws' := (mW ma cI cZ 2 nv nb nt nf na lv nm vw tk ta tb tc tw fk fa fb od sd aa am vl ho)) (w1 := (mW ma cI cZ 2 nv nb nt nf na lv nm vw tk ta tb tc tw fk fa fb od sd aa am vl ho)) (wc := (mW ma cI cZ 0 nv nb nt nf na lv nm vw tk ta tb tc tw fk fa fb od sd aa am vl ho)) (wr := []) ⟨hx, hb, hml, hown, hts⟩ (c_M_raise l D ma cI cZ 0 nv nb nt nf na lv nm vw tk ta tb tc tw fk fa fb od sd aa am vl ho hok 2) ⟨callB_of 1 hts (gW wd_599) rfl rfl rfl (hts _ wd_4) (hts _ wd_596) hd_M_raise ⟨Nat.le_of_ble_eq_true rfl, Nat.le_of_ble_eq_true rfl⟩, hts _ wd_598, hts _ wd_p22⟩ XT_ok (fun _ _ _ => trivial) hK hP hD hS hA 0 3 rfl rfl rfl [0, 1] [0, 1, 2, 3, 4, 5, 6, 7, 8, 9, 10, 11, 12, 13, 14, 15] [] [0, 1, 2, 3, 4, 5, 6, 7, 8, 9, 10, 11, 12, 13, 14, 15] rfl rfl rfl rfl rfl (by decide) rfl rfl rfl hl.1 rfl (Nat.le_of_ble_eq_true rfl) d_M_term_38 ⟨Nat.zero_le _, Nat.zero_le _⟩ (st1 := [.int (nI 0)]) rfl (fun H locs hP hD hS => ?_)
      exact fn_iret hx hb hr hlocks hAe hK hP hD hS rfl d_M_term_41
  · exact absurd c_18 (by omega)
set_option maxHeartbeats 4000000 in
set_option maxRecDepth 100000 in
theorem c_M_can (l : Launch) (D : va_G) (ma : Nat → Nat) (cI cZ : ClassId) (th nv nb nt nf na lv nm : Nat) (vw tk ta : Nat → Nat) (tb tc : Nat → Int32) (tw fk fa : Nat → Nat) (fb : Nat → Int32) (od sd aa am vl : Nat → Nat) (ho : Nat → Bool) (hok : Mok nv nb nt nf na lv nm vw tk ta tb tc tw fk fa fb od sd am vl) (kd ka kb : Int32) : Fn l y_M_can (wk y_M_can b_M_can 4 (some .boolean)) rm_M_can D cls [(cI, .int), (cZ, .boolean)] [.ref (ma 0), .int kd, .int ka, .int kb] (mW ma cI cZ th nv nb nt nf na lv nm vw tk ta tb tc tw fk fa fb od sd aa am vl ho) XT (some (.int (bI (pF nt nf tw kd ka kb)))) (mW ma cI cZ th nv nb nt nf na lv nm vw tk ta tb tc tw fk fa fb od sd aa am vl ho) := by
  refine Fn.of (by decide) rfl (Nat.le_of_ble_eq_true rfl) ?_
  intro p e s m below meth c A ls hx hb hml hr hts0 hown hlocks hnm hP hK hD hS hA hAe hX hl
  have hts : ∀ w ∈ lw_ok, w.before _ s = true := fun w h => hts0 w (List.mem_cons_of_mem _ h)
  have hown : s.vm.findClass R_M = some m.cls := hown
  have hP : va_P D cls (mW ma cI cZ th nv nb nt nf na lv nm vw tk ta tb tc tw fk fa fb od sd aa am vl ho) s.heap := hP
  have hl : lv_has ls 4 [(0, .ref (ma 0)), (1, .int kd), (2, .int ka), (3, .int kb)] := hl
  obtain ⟨o_nv, o_nb, o_nt, o_nf, o_na, o_lv, o_nm, o_vw, o_tw, o_am, o_sd, o_T, o_F, o_od, o_vl⟩ := id hok
  refine lv_iload_n hx hb d_M_can_0 rfl (lv_at hl 1 rfl) ?_
  refine lv_iconst (v := nI 0) hx hb d_M_can_1 (by decide) ?_
  refine lv_iconst (v := nI 4) hx hb d_M_can_2 (by decide) ?_
  refine fn_S (ws' := (mW ma cI cZ th nv nb nt nf na lv nm vw tk ta tb tc tw fk fa fb od sd aa am vl ho)) (w1 := (nilW)) (wc := (nilW)) (wr := [(ma 0, .inr (3, [.int (nI th), .ref (ma 1), .int (nI nv), .int (nI nb), .ref (ma 2), .ref (ma 3), .ref (ma 4), .ref (ma 5), .ref (ma 6), .int (nI nt), .ref (ma 7), .ref (ma 8), .ref (ma 9), .int (nI nf), .ref (ma 10), .ref (ma 11), .ref (ma 12), .int (nI na), .int (nI lv), .ref (ma 13), .int (nI nm), .ref (ma 14), .ref (ma 15)])), (ma 1, .inl (cI, 6, .inl (fun j => nI (vw j)))), (ma 2, .inl (cI, 50, .inl (fun j => nI (tk j)))), (ma 3, .inl (cI, 50, .inl (fun j => nI (ta j)))), (ma 4, .inl (cI, 50, .inl tb)), (ma 5, .inl (cI, 50, .inl tc)), (ma 6, .inl (cI, 50, .inl (fun j => nI (tw j)))), (ma 7, .inl (cI, 50, .inl (fun j => nI (fk j)))), (ma 8, .inl (cI, 50, .inl (fun j => nI (fa j)))), (ma 9, .inl (cI, 50, .inl fb)), (ma 10, .inl (cI, 100, .inl (fun j => nI (od j)))), (ma 11, .inl (cI, 30, .inl (fun j => nI (sd j)))), (ma 12, .inl (cI, 30, .inl (fun j => nI (aa j)))), (ma 13, .inl (cI, 8, .inl (fun j => nI (am j)))), (ma 14, .inl (cI, 50, .inl (fun j => nI (vl j)))), (ma 15, .inl (cZ, 50, .inl (fun j => bI (ho j))))]) ⟨hx, hb, hml, hown, hts⟩ (c_M_in l D kd (nI 0) (nI 4)) ⟨callB_of 3 hts (gW wd_595) rfl rfl rfl (hts _ wd_4) (hts _ wd_593) hd_M_in ⟨Nat.le_of_ble_eq_true rfl, Nat.le_of_ble_eq_true rfl⟩, hts _ wd_594⟩ XT_ok (fun _ _ _ => trivial) hK hP hD hS hA [] [] [0, 1, 2, 3, 4, 5, 6, 7, 8, 9, 10, 11, 12, 13, 14, 15] [0, 1, 2, 3, 4, 5, 6, 7, 8, 9, 10, 11, 12, 13, 14, 15] rfl rfl rfl rfl rfl (by decide) rfl rfl rfl hl.1 rfl (Nat.le_of_ble_eq_true rfl) d_M_can_3 ⟨Nat.zero_le _, Nat.zero_le _⟩ (st1 := [.int (bI (inI kd (nI 0) (nI 4)))]) rfl (fun H locs hP hD hS => ?_)
  refine b_if_eq (tgt := 16) hx hb d_M_can_6 (by decide) (fun c_6 => ?_) (fun c_6 => ?_)
  · rw [inI_N (by decide) (by decide)] at c_6
    have c_6 := of_decide_eq_false c_6
    refine lv_iload_n hx hb d_M_can_16 rfl (lv_at hl 1 rfl) ?_
    refine lv_iconst (v := nI 5) hx hb d_M_can_17 (by decide) ?_
    refine z_icmp_ne (tgt := 51) hx hb rfl (nI_toInt (by omega)) d_M_can_18 (by decide) (fun c_18 => ?_) (fun c_18 => ?_)
    · refine lv_iload_n hx hb d_M_can_51 rfl (lv_at hl 1 rfl) ?_
      refine lv_bipush (v := nI 6) hx hb d_M_can_52 (by decide) ?_
      refine z_icmp_ne (tgt := 63) hx hb rfl (nI_toInt (by omega)) d_M_can_54 (by decide) (fun c_54 => ?_) (fun c_54 => ?_)
      · refine lv_iload_n hx hb d_M_can_63 rfl (lv_at hl 1 rfl) ?_
        refine lv_bipush (v := nI 7) hx hb d_M_can_64 (by decide) ?_
        refine lv_bipush (v := nI 10) hx hb d_M_can_66 (by decide) ?_
        refine fn_S (ws' := (mW ma cI cZ th nv nb nt nf na lv nm vw tk ta tb tc tw fk fa fb od sd aa am vl ho)) (w1 := (nilW)) (wc := (nilW)) (wr := [(ma 0, .inr (3, [.int (nI th), .ref (ma 1), .int (nI nv), .int (nI nb), .ref (ma 2), .ref (ma 3), .ref (ma 4), .ref (ma 5), .ref (ma 6), .int (nI nt), .ref (ma 7), .ref (ma 8), .ref (ma 9), .int (nI nf), .ref (ma 10), .ref (ma 11), .ref (ma 12), .int (nI na), .int (nI lv), .ref (ma 13), .int (nI nm), .ref (ma 14), .ref (ma 15)])), (ma 1, .inl (cI, 6, .inl (fun j => nI (vw j)))), (ma 2, .inl (cI, 50, .inl (fun j => nI (tk j)))), (ma 3, .inl (cI, 50, .inl (fun j => nI (ta j)))), (ma 4, .inl (cI, 50, .inl tb)), (ma 5, .inl (cI, 50, .inl tc)), (ma 6, .inl (cI, 50, .inl (fun j => nI (tw j)))), (ma 7, .inl (cI, 50, .inl (fun j => nI (fk j)))), (ma 8, .inl (cI, 50, .inl (fun j => nI (fa j)))), (ma 9, .inl (cI, 50, .inl fb)), (ma 10, .inl (cI, 100, .inl (fun j => nI (od j)))), (ma 11, .inl (cI, 30, .inl (fun j => nI (sd j)))), (ma 12, .inl (cI, 30, .inl (fun j => nI (aa j)))), (ma 13, .inl (cI, 8, .inl (fun j => nI (am j)))), (ma 14, .inl (cI, 50, .inl (fun j => nI (vl j)))), (ma 15, .inl (cZ, 50, .inl (fun j => bI (ho j))))]) ⟨hx, hb, hml, hown, hts⟩ (c_M_in l D kd (nI 7) (nI 10)) ⟨callB_of 3 hts (gW wd_595) rfl rfl rfl (hts _ wd_4) (hts _ wd_593) hd_M_in ⟨Nat.le_of_ble_eq_true rfl, Nat.le_of_ble_eq_true rfl⟩, hts _ wd_594⟩ XT_ok (fun _ _ _ => trivial) hK hP hD hS hA [] [] [0, 1, 2, 3, 4, 5, 6, 7, 8, 9, 10, 11, 12, 13, 14, 15] [0, 1, 2, 3, 4, 5, 6, 7, 8, 9, 10, 11, 12, 13, 14, 15] rfl rfl rfl rfl rfl (by decide) rfl rfl rfl hl.1 rfl (Nat.le_of_ble_eq_true rfl) d_M_can_68 ⟨Nat.zero_le _, Nat.zero_le _⟩ (st1 := [.int (bI (inI kd (nI 7) (nI 10)))]) rfl (fun H locs hP hD hS => ?_)
        refine b_if_eq (tgt := 94) hx hb d_M_can_71 (by decide) (fun c_71 => ?_) (fun c_71 => ?_)
        · rw [inI_N (by decide) (by decide)] at c_71
          have c_71 := of_decide_eq_false c_71
          refine lv_iconst (v := nI 0) hx hb d_M_can_94 (by decide) ?_
          exact fn_zret hx hb hr hlocks hAe hK hP hD hS (by rw [pF_no (by omega)]; rfl) d_M_can_95
        · rw [inI_N (by decide) (by decide)] at c_71
          have c_71 := of_decide_eq_true c_71
          refine lv_aload_n hx hb d_M_can_74 rfl (lv_at hl 0 rfl) ?_
          refine lv_iload_n hx hb d_M_can_75 rfl (lv_at hl 2 rfl) ?_
          refine fn_V (ws' := (mW ma cI cZ th nv nb nt nf na lv nm vw tk ta tb tc tw fk fa fb od sd aa am vl ho)) (w1 := (mW ma cI cZ th nv nb nt nf na lv nm vw tk ta tb tc tw fk fa fb od sd aa am vl ho)) (wc := (mW ma cI cZ th nv nb nt nf na lv nm vw tk ta tb tc tw fk fa fb od sd aa am vl ho)) (wr := []) ⟨hx, hb, hml, hown, hts⟩ (c_M_isFormula l D ma cI cZ th nv nb nt nf na lv nm vw tk ta tb tc tw fk fa fb od sd aa am vl ho hok ka) ⟨callB_of 1 hts (gW wd_619) rfl rfl rfl (hts _ wd_4) (hts _ wd_616) hd_M_isFormula ⟨Nat.le_of_ble_eq_true rfl, Nat.le_of_ble_eq_true rfl⟩, hts _ wd_618, hts _ wd_p26⟩ XT_ok (fun _ _ _ => trivial) hK hP hD hS hA 0 3 rfl rfl rfl [0, 1] [0, 1, 2, 3, 4, 5, 6, 7, 8, 9, 10, 11, 12, 13, 14, 15] [] [0, 1, 2, 3, 4, 5, 6, 7, 8, 9, 10, 11, 12, 13, 14, 15] rfl rfl rfl rfl rfl (by decide) rfl rfl rfl hl.1 rfl (Nat.le_of_ble_eq_true rfl) d_M_can_76 ⟨Nat.zero_le _, Nat.zero_le _⟩ (st1 := [.int (bI (hasB ka nf))]) rfl (fun H locs hP hD hS => ?_)
          refine b_if_eq (tgt := 94) hx hb d_M_can_79 (by decide) (fun c_79 => ?_) (fun c_79 => ?_)
          · refine lv_iconst (v := nI 0) hx hb d_M_can_94 (by decide) ?_
            exact fn_zret hx hb hr hlocks hAe hK hP hD hS (by rw [pF_7 (by omega) (by omega), c_79]; rfl) d_M_can_95
          · refine lv_aload_n hx hb d_M_can_82 rfl (lv_at hl 0 rfl) ?_
            refine lv_iload_n hx hb d_M_can_83 rfl (lv_at hl 3 rfl) ?_
            refine fn_V (ws' := (mW ma cI cZ th nv nb nt nf na lv nm vw tk ta tb tc tw fk fa fb od sd aa am vl ho)) (w1 := (mW ma cI cZ th nv nb nt nf na lv nm vw tk ta tb tc tw fk fa fb od sd aa am vl ho)) (wc := (mW ma cI cZ th nv nb nt nf na lv nm vw tk ta tb tc tw fk fa fb od sd aa am vl ho)) (wr := []) ⟨hx, hb, hml, hown, hts⟩ (c_M_isFormula l D ma cI cZ th nv nb nt nf na lv nm vw tk ta tb tc tw fk fa fb od sd aa am vl ho hok kb) ⟨callB_of 1 hts (gW wd_619) rfl rfl rfl (hts _ wd_4) (hts _ wd_616) hd_M_isFormula ⟨Nat.le_of_ble_eq_true rfl, Nat.le_of_ble_eq_true rfl⟩, hts _ wd_618, hts _ wd_p26⟩ XT_ok (fun _ _ _ => trivial) hK hP hD hS hA 0 3 rfl rfl rfl [0, 1] [0, 1, 2, 3, 4, 5, 6, 7, 8, 9, 10, 11, 12, 13, 14, 15] [] [0, 1, 2, 3, 4, 5, 6, 7, 8, 9, 10, 11, 12, 13, 14, 15] rfl rfl rfl rfl rfl (by decide) rfl rfl rfl hl.1 rfl (Nat.le_of_ble_eq_true rfl) d_M_can_84 ⟨Nat.zero_le _, Nat.zero_le _⟩ (st1 := [.int (bI (hasB kb nf))]) rfl (fun H locs hP hD hS => ?_)
            refine b_if_eq (tgt := 94) hx hb d_M_can_87 (by decide) (fun c_87 => ?_) (fun c_87 => ?_)
            · refine lv_iconst (v := nI 0) hx hb d_M_can_94 (by decide) ?_
              exact fn_zret hx hb hr hlocks hAe hK hP hD hS (by rw [pF_7 (by omega) (by omega), c_79, c_87]; rfl) d_M_can_95
            · refine lv_iconst (v := nI 1) hx hb d_M_can_90 (by decide) ?_
              refine lv_goto (tgt := 95) hx hb d_M_can_91 (by decide) ?_
              exact fn_zret hx hb hr hlocks hAe hK hP hD hS (by rw [pF_7 (by omega) (by omega), c_79, c_87]; rfl) d_M_can_95
      · refine lv_aload_n hx hb d_M_can_57 rfl (lv_at hl 0 rfl) ?_
        refine lv_iload_n hx hb d_M_can_58 rfl (lv_at hl 2 rfl) ?_
        refine fn_V (ws' := (mW ma cI cZ th nv nb nt nf na lv nm vw tk ta tb tc tw fk fa fb od sd aa am vl ho)) (w1 := (mW ma cI cZ th nv nb nt nf na lv nm vw tk ta tb tc tw fk fa fb od sd aa am vl ho)) (wc := (mW ma cI cZ th nv nb nt nf na lv nm vw tk ta tb tc tw fk fa fb od sd aa am vl ho)) (wr := []) ⟨hx, hb, hml, hown, hts⟩ (c_M_isFormula l D ma cI cZ th nv nb nt nf na lv nm vw tk ta tb tc tw fk fa fb od sd aa am vl ho hok ka) ⟨callB_of 1 hts (gW wd_619) rfl rfl rfl (hts _ wd_4) (hts _ wd_616) hd_M_isFormula ⟨Nat.le_of_ble_eq_true rfl, Nat.le_of_ble_eq_true rfl⟩, hts _ wd_618, hts _ wd_p26⟩ XT_ok (fun _ _ _ => trivial) hK hP hD hS hA 0 3 rfl rfl rfl [0, 1] [0, 1, 2, 3, 4, 5, 6, 7, 8, 9, 10, 11, 12, 13, 14, 15] [] [0, 1, 2, 3, 4, 5, 6, 7, 8, 9, 10, 11, 12, 13, 14, 15] rfl rfl rfl rfl rfl (by decide) rfl rfl rfl hl.1 rfl (Nat.le_of_ble_eq_true rfl) d_M_can_59 ⟨Nat.zero_le _, Nat.zero_le _⟩ (st1 := [.int (bI (hasB ka nf))]) rfl (fun H locs hP hD hS => ?_)
        exact fn_zret hx hb hr hlocks hAe hK hP hD hS (by rw [pF_6 (by omega)]) d_M_can_62
    · refine lv_aload_n hx hb d_M_can_21 rfl (lv_at hl 0 rfl) ?_
      refine lv_iload_n hx hb d_M_can_22 rfl (lv_at hl 2 rfl) ?_
      refine fn_V (ws' := (mW ma cI cZ th nv nb nt nf na lv nm vw tk ta tb tc tw fk fa fb od sd aa am vl ho)) (w1 := (mW ma cI cZ th nv nb nt nf na lv nm vw tk ta tb tc tw fk fa fb od sd aa am vl ho)) (wc := (mW ma cI cZ th nv nb nt nf na lv nm vw tk ta tb tc tw fk fa fb od sd aa am vl ho)) (wr := []) ⟨hx, hb, hml, hown, hts⟩ (c_M_isTerm l D ma cI cZ th nv nb nt nf na lv nm vw tk ta tb tc tw fk fa fb od sd aa am vl ho hok ka) ⟨callB_of 1 hts (gW wd_615) rfl rfl rfl (hts _ wd_4) (hts _ wd_612) hd_M_isTerm ⟨Nat.le_of_ble_eq_true rfl, Nat.le_of_ble_eq_true rfl⟩, hts _ wd_614, hts _ wd_p25⟩ XT_ok (fun _ _ _ => trivial) hK hP hD hS hA 0 3 rfl rfl rfl [0, 1] [0, 1, 2, 3, 4, 5, 6, 7, 8, 9, 10, 11, 12, 13, 14, 15] [] [0, 1, 2, 3, 4, 5, 6, 7, 8, 9, 10, 11, 12, 13, 14, 15] rfl rfl rfl rfl rfl (by decide) rfl rfl rfl hl.1 rfl (Nat.le_of_ble_eq_true rfl) d_M_can_23 ⟨Nat.zero_le _, Nat.zero_le _⟩ (st1 := [.int (bI (hasB ka nt))]) rfl (fun H locs hP hD hS => ?_)
      refine b_if_eq (tgt := 49) hx hb d_M_can_26 (by decide) (fun c_26 => ?_) (fun c_26 => ?_)
      · refine lv_iconst (v := nI 0) hx hb d_M_can_49 (by decide) ?_
        exact fn_zret hx hb hr hlocks hAe hK hP hD hS (by rw [pF_5 (by omega), tW_no c_26, decide_eq_false (by omega)]; rfl) d_M_can_50
      · obtain ⟨i, hi, rfl⟩ := hasB_nat c_26
        have oi := o_tw i hi
        have eT := tW_I (nt := nt) (tw := tw) hi (by omega)
        refine lv_iload_n hx hb d_M_can_29 rfl (lv_at hl 3 rfl) ?_
        refine lv_iconst (v := nI 0) hx hb d_M_can_30 (by decide) ?_
        refine lv_aload_n hx hb d_M_can_31 rfl (lv_at hl 0 rfl) ?_
        refine va_get (D := D) (ci := 3) (v := .ref (ma 6)) (C := R_M) (T := F_M) (N := 23) hx hb hts in_M hown hK hP 0 rfl rfl 8 (by decide) (hts _ wd_522) (fun _ h9 => h9) rfl d_M_can_32 ?_
        refine lv_iload_n hx hb d_M_can_35 rfl (lv_at hl 2 rfl) ?_
        refine n_iald hx hb hK hP 6 0 rfl rfl (i := i) (by omega) (by omega) d_M_can_36 ?_
        refine lv_iconst (v := nI 1) hx hb d_M_can_37 (by decide) ?_
        refine lv_isub hx hb d_M_can_38 ?_
        refine fn_S (ws' := (mW ma cI cZ th nv nb nt nf na lv nm vw tk ta tb tc tw fk fa fb od sd aa am vl ho)) (w1 := (nilW)) (wc := (nilW)) (wr := [(ma 0, .inr (3, [.int (nI th), .ref (ma 1), .int (nI nv), .int (nI nb), .ref (ma 2), .ref (ma 3), .ref (ma 4), .ref (ma 5), .ref (ma 6), .int (nI nt), .ref (ma 7), .ref (ma 8), .ref (ma 9), .int (nI nf), .ref (ma 10), .ref (ma 11), .ref (ma 12), .int (nI na), .int (nI lv), .ref (ma 13), .int (nI nm), .ref (ma 14), .ref (ma 15)])), (ma 1, .inl (cI, 6, .inl (fun j => nI (vw j)))), (ma 2, .inl (cI, 50, .inl (fun j => nI (tk j)))), (ma 3, .inl (cI, 50, .inl (fun j => nI (ta j)))), (ma 4, .inl (cI, 50, .inl tb)), (ma 5, .inl (cI, 50, .inl tc)), (ma 6, .inl (cI, 50, .inl (fun j => nI (tw j)))), (ma 7, .inl (cI, 50, .inl (fun j => nI (fk j)))), (ma 8, .inl (cI, 50, .inl (fun j => nI (fa j)))), (ma 9, .inl (cI, 50, .inl fb)), (ma 10, .inl (cI, 100, .inl (fun j => nI (od j)))), (ma 11, .inl (cI, 30, .inl (fun j => nI (sd j)))), (ma 12, .inl (cI, 30, .inl (fun j => nI (aa j)))), (ma 13, .inl (cI, 8, .inl (fun j => nI (am j)))), (ma 14, .inl (cI, 50, .inl (fun j => nI (vl j)))), (ma 15, .inl (cZ, 50, .inl (fun j => bI (ho j))))]) ⟨hx, hb, hml, hown, hts⟩ (c_M_in l D kb (nI 0) ((nI (tw i)) - (nI 1))) ⟨callB_of 3 hts (gW wd_595) rfl rfl rfl (hts _ wd_4) (hts _ wd_593) hd_M_in ⟨Nat.le_of_ble_eq_true rfl, Nat.le_of_ble_eq_true rfl⟩, hts _ wd_594⟩ XT_ok (fun _ _ _ => trivial) hK hP hD hS hA [] [] [0, 1, 2, 3, 4, 5, 6, 7, 8, 9, 10, 11, 12, 13, 14, 15] [0, 1, 2, 3, 4, 5, 6, 7, 8, 9, 10, 11, 12, 13, 14, 15] rfl rfl rfl rfl rfl (by decide) rfl rfl rfl hl.1 rfl (Nat.le_of_ble_eq_true rfl) d_M_can_39 ⟨Nat.zero_le _, Nat.zero_le _⟩ (st1 := [.int (bI (inI kb (nI 0) ((nI (tw i)) - (nI 1))))]) rfl (fun H locs hP hD hS => ?_)
        refine b_if_eq (tgt := 49) hx hb d_M_can_42 (by decide) (fun c_42 => ?_) (fun c_42 => ?_)
        · rw [inI_has (by omega)] at c_42
          refine lv_iconst (v := nI 0) hx hb d_M_can_49 (by decide) ?_
          exact fn_zret hx hb hr hlocks hAe hK hP hD hS (by rw [pF_5 (by omega), eT, decide_eq_false (of_decide_eq_false c_42)]; rfl) d_M_can_50
        · rw [inI_has (by omega)] at c_42
          refine lv_iconst (v := nI 1) hx hb d_M_can_45 (by decide) ?_
          refine lv_goto (tgt := 50) hx hb d_M_can_46 (by decide) ?_
          exact fn_zret hx hb hr hlocks hAe hK hP hD hS (by rw [pF_5 (by omega), eT, decide_eq_true (of_decide_eq_true c_42)]; rfl) d_M_can_50
  · rw [inI_N (by decide) (by decide)] at c_6
    have c_6 := of_decide_eq_true c_6
    refine lv_aload_n hx hb d_M_can_9 rfl (lv_at hl 0 rfl) ?_
    refine lv_iload_n hx hb d_M_can_10 rfl (lv_at hl 2 rfl) ?_
    refine lv_iload_n hx hb d_M_can_11 rfl (lv_at hl 3 rfl) ?_
    refine fn_V (ws' := (mW ma cI cZ th nv nb nt nf na lv nm vw tk ta tb tc tw fk fa fb od sd aa am vl ho)) (w1 := (mW ma cI cZ th nv nb nt nf na lv nm vw tk ta tb tc tw fk fa fb od sd aa am vl ho)) (wc := (mW ma cI cZ th nv nb nt nf na lv nm vw tk ta tb tc tw fk fa fb od sd aa am vl ho)) (wr := []) ⟨hx, hb, hml, hown, hts⟩ (c_M_alike l D ma cI cZ th nv nb nt nf na lv nm vw tk ta tb tc tw fk fa fb od sd aa am vl ho hok ka kb) ⟨callB_of 2 hts (gW wd_611) rfl rfl rfl (hts _ wd_4) (hts _ wd_608) hd_M_alike ⟨Nat.le_of_ble_eq_true rfl, Nat.le_of_ble_eq_true rfl⟩, hts _ wd_610, hts _ wd_p24⟩ XT_ok (fun _ _ _ => trivial) hK hP hD hS hA 0 3 rfl rfl rfl [0, 1] [0, 1, 2, 3, 4, 5, 6, 7, 8, 9, 10, 11, 12, 13, 14, 15] [] [0, 1, 2, 3, 4, 5, 6, 7, 8, 9, 10, 11, 12, 13, 14, 15] rfl rfl rfl rfl rfl (by decide) rfl rfl rfl hl.1 rfl (Nat.le_of_ble_eq_true rfl) d_M_can_12 ⟨Nat.zero_le _, Nat.zero_le _⟩ (st1 := [.int (bI (alB nt tw ka kb))]) rfl (fun H locs hP hD hS => ?_)
    exact fn_zret hx hb hr hlocks hAe hK hP hD hS (by rw [pF_lo (by omega) (by omega)]) d_M_can_15
set_option maxHeartbeats 4000000 in
set_option maxRecDepth 100000 in
theorem c_M_formula_0 (l : Launch) (D : va_G) (ma : Nat → Nat) (cI cZ : ClassId) (th nv nb nt nf na lv nm : Nat) (vw tk ta : Nat → Nat) (tb tc : Nat → Int32) (tw fk fa : Nat → Nat) (fb : Nat → Int32) (od sd aa am vl : Nat → Nat) (ho : Nat → Bool) (hok : Mok nv nb nt nf na lv nm vw tk ta tb tc tw fk fa fb od sd am vl) (k a : Nat) (kb : Int32) (hf : pF nt nf tw (nI k) (nI a) kb = true) (hnf : nf < 50) : Fn l y_M_formula (wk y_M_formula b_M_formula 4 (some .int)) rm_M_formula D cls [(cI, .int), (cZ, .boolean)] [.ref (ma 0), .int (nI k), .int (nI a), .int kb] (mW ma cI cZ th nv nb nt nf na lv nm vw tk ta tb tc tw fk fa fb od sd aa am vl ho) XT (some (.int (nI nf))) (mW ma cI cZ 0 nv nb nt (nf + 1) na lv nm vw tk ta tb tc tw (updN fk nf k) (updN fa nf a) (upd fb nf kb) (updN od (nt + nf) (100 + nf)) sd aa am vl ho) := by
  refine Fn.of (by decide) rfl (Nat.le_of_ble_eq_true rfl) ?_
  intro p e s m below meth c A ls hx hb hml hr hts0 hown hlocks hnm hP hK hD hS hA hAe hX hl
  have hts : ∀ w ∈ lw_ok, w.before _ s = true := fun w h => hts0 w (List.mem_cons_of_mem _ h)
  have hown : s.vm.findClass R_M = some m.cls := hown
  have hP : va_P D cls (mW ma cI cZ th nv nb nt nf na lv nm vw tk ta tb tc tw fk fa fb od sd aa am vl ho) s.heap := hP
  have hl : lv_has ls 4 [(0, .ref (ma 0)), (1, .int (nI k)), (2, .int (nI a)), (3, .int kb)] := hl
  obtain ⟨o_nv, o_nb, o_nt, o_nf, o_na, o_lv, o_nm, o_vw, o_tw, o_am, o_sd, o_T, o_F, o_od, o_vl⟩ := id hok
  refine lv_aload_n hx hb d_M_formula_0 rfl (lv_at hl 0 rfl) ?_
  refine lv_iconst (v := nI 0) hx hb d_M_formula_1 (by decide) ?_
  refine va_put (D := D) (ci := 3) (v := .int (nI 0)) (ty := .int) (C := R_M) (T := F_M) (N := 23) hx hb hts in_M t_M tok_M nm_M hown hK hP hD hS 0 rfl rfl 0 (by decide) (hts _ wd_514) (fun _ h9 => h9) rfl (by decide +kernel) rfl rfl (Nat.le_of_ble_eq_true rfl) d_M_formula_2 (fun H locs hP hD hS => ?_)
  have hP : va_P D cls (mW ma cI cZ 0 nv nb nt nf na lv nm vw tk ta tb tc tw fk fa fb od sd aa am vl ho) H := hP
  have hD : va_D A (mW ma cI cZ 0 nv nb nt nf na lv nm vw tk ta tb tc tw fk fa fb od sd aa am vl ho) := hD
  refine lv_aload_n hx hb d_M_formula_5 rfl (lv_at hl 0 rfl) ?_
  refine lv_iload_n hx hb d_M_formula_6 rfl (lv_at hl 1 rfl) ?_
  refine lv_iload_n hx hb d_M_formula_7 rfl (lv_at hl 2 rfl) ?_
  refine lv_iload_n hx hb d_M_formula_8 rfl (lv_at hl 3 rfl) ?_
  refine fn_V (ws' := (mW ma cI cZ 0 nv nb nt nf na lv nm vw tk ta tb tc tw fk fa fb od sd aa am vl ho)) (w1 := (mW ma cI cZ 0 nv nb nt nf na lv nm vw tk ta tb tc tw fk fa fb od sd aa am vl ho)) (wc := (mW ma cI cZ 0 nv nb nt nf na lv nm vw tk ta tb tc tw fk fa fb od sd aa am vl ho)) (wr := []) ⟨hx, hb, hml, hown, hts⟩ (c_M_can l D ma cI cZ 0 nv nb nt nf na lv nm vw tk ta tb tc tw fk fa fb od sd aa am vl ho hok (nI k) (nI a) kb) ⟨callB_of 3 hts (gW wd_627) rfl rfl rfl (hts _ wd_4) (hts _ wd_624) hd_M_can ⟨Nat.le_of_ble_eq_true rfl, Nat.le_of_ble_eq_true rfl⟩, hts _ wd_626, hts _ wd_p27⟩ XT_ok (fun _ _ _ => trivial) hK hP hD hS hA 0 3 rfl rfl rfl [0, 1] [0, 1, 2, 3, 4, 5, 6, 7, 8, 9, 10, 11, 12, 13, 14, 15] [] [0, 1, 2, 3, 4, 5, 6, 7, 8, 9, 10, 11, 12, 13, 14, 15] rfl rfl rfl rfl rfl (by decide) rfl rfl rfl hl.1 rfl (Nat.le_of_ble_eq_true rfl) d_M_formula_9 ⟨Nat.zero_le _, Nat.zero_le _⟩ (st1 := [.int (bI (pF nt nf tw (nI k) (nI a) kb))]) rfl (fun H locs hP hD hS => ?_)
  refine b_if_ne (tgt := 21) hx hb d_M_formula_12 (by decide) (fun c_12 => ?_) (fun c_12 => ?_)
  · refine lv_aload_n hx hb d_M_formula_21 rfl (lv_at hl 0 rfl) ?_
    refine va_get (D := D) (ci := 3) (v := .int (nI nf)) (C := R_M) (T := F_M) (N := 23) hx hb hts in_M hown hK hP 0 rfl rfl 13 (by decide) (hts _ wd_527) (fun _ h9 => h9) rfl d_M_formula_22 ?_
    refine lv_bipush (v := nI 50) hx hb d_M_formula_25 (by decide) ?_
    refine z_icmp_ne (tgt := 36) hx hb (nI_toInt (by omega)) (nI_toInt (by omega)) d_M_formula_27 (by decide) (fun c_27 => ?_) (fun c_27 => ?_)
    · refine lv_aload_n hx hb d_M_formula_36 rfl (lv_at hl 0 rfl) ?_
      refine va_get (D := D) (ci := 3) (v := .ref (ma 7)) (C := R_M) (T := F_M) (N := 23) hx hb hts in_M hown hK hP 0 rfl rfl 10 (by decide) (hts _ wd_524) (fun _ h9 => h9) rfl d_M_formula_37 ?_
      refine lv_aload_n hx hb d_M_formula_40 rfl (lv_at hl 0 rfl) ?_
      refine va_get (D := D) (ci := 3) (v := .int (nI nf)) (C := R_M) (T := F_M) (N := 23) hx hb hts in_M hown hK hP 0 rfl rfl 13 (by decide) (hts _ wd_527) (fun _ h9 => h9) rfl d_M_formula_41 ?_
      refine lv_iload_n hx hb d_M_formula_44 rfl (lv_at hl 1 rfl) ?_
      refine n_iast hx hb hK hP hD hS 7 0 rfl rfl (i := nf) (by omega) (by omega) (updN_I _ _ _) d_M_formula_45 (ws' := (mW ma cI cZ 0 nv nb nt nf na lv nm vw tk ta tb tc tw (updN fk nf k) fa fb od sd aa am vl ho)) rfl (fun H locs hP hD hS => ?_)
      refine lv_aload_n hx hb d_M_formula_46 rfl (lv_at hl 0 rfl) ?_
      refine va_get (D := D) (ci := 3) (v := .ref (ma 8)) (C := R_M) (T := F_M) (N := 23) hx hb hts in_M hown hK hP 0 rfl rfl 11 (by decide) (hts _ wd_525) (fun _ h9 => h9) rfl d_M_formula_47 ?_
      refine lv_aload_n hx hb d_M_formula_50 rfl (lv_at hl 0 rfl) ?_
      refine va_get (D := D) (ci := 3) (v := .int (nI nf)) (C := R_M) (T := F_M) (N := 23) hx hb hts in_M hown hK hP 0 rfl rfl 13 (by decide) (hts _ wd_527) (fun _ h9 => h9) rfl d_M_formula_51 ?_
      refine lv_iload_n hx hb d_M_formula_54 rfl (lv_at hl 2 rfl) ?_
      refine n_iast hx hb hK hP hD hS 8 0 rfl rfl (i := nf) (by omega) (by omega) (updN_I _ _ _) d_M_formula_55 (ws' := (mW ma cI cZ 0 nv nb nt nf na lv nm vw tk ta tb tc tw (updN fk nf k) (updN fa nf a) fb od sd aa am vl ho)) rfl (fun H locs hP hD hS => ?_)
      refine lv_aload_n hx hb d_M_formula_56 rfl (lv_at hl 0 rfl) ?_
      refine va_get (D := D) (ci := 3) (v := .ref (ma 9)) (C := R_M) (T := F_M) (N := 23) hx hb hts in_M hown hK hP 0 rfl rfl 12 (by decide) (hts _ wd_526) (fun _ h9 => h9) rfl d_M_formula_57 ?_
      refine lv_aload_n hx hb d_M_formula_60 rfl (lv_at hl 0 rfl) ?_
      refine va_get (D := D) (ci := 3) (v := .int (nI nf)) (C := R_M) (T := F_M) (N := 23) hx hb hts in_M hown hK hP 0 rfl rfl 13 (by decide) (hts _ wd_527) (fun _ h9 => h9) rfl d_M_formula_61 ?_
      refine lv_iload_n hx hb d_M_formula_64 rfl (lv_at hl 3 rfl) ?_
      refine n_iast hx hb hK hP hD hS 9 0 rfl rfl (i := nf) (by omega) (by omega) rfl d_M_formula_65 (ws' := (mW ma cI cZ 0 nv nb nt nf na lv nm vw tk ta tb tc tw (updN fk nf k) (updN fa nf a) (upd fb nf kb) od sd aa am vl ho)) rfl (fun H locs hP hD hS => ?_)
      refine lv_aload_n hx hb d_M_formula_66 rfl (lv_at hl 0 rfl) ?_
      refine va_get (D := D) (ci := 3) (v := .ref (ma 10)) (C := R_M) (T := F_M) (N := 23) hx hb hts in_M hown hK hP 0 rfl rfl 14 (by decide) (hts _ wd_528) (fun _ h9 => h9) rfl d_M_formula_67 ?_
      refine lv_aload_n hx hb d_M_formula_70 rfl (lv_at hl 0 rfl) ?_
      refine va_get (D := D) (ci := 3) (v := .int (nI nt)) (C := R_M) (T := F_M) (N := 23) hx hb hts in_M hown hK hP 0 rfl rfl 9 (by decide) (hts _ wd_523) (fun _ h9 => h9) rfl d_M_formula_71 ?_
      refine lv_aload_n hx hb d_M_formula_74 rfl (lv_at hl 0 rfl) ?_
      refine va_get (D := D) (ci := 3) (v := .int (nI nf)) (C := R_M) (T := F_M) (N := 23) hx hb hts in_M hown hK hP 0 rfl rfl 13 (by decide) (hts _ wd_527) (fun _ h9 => h9) rfl d_M_formula_75 ?_
      refine n_add hx hb d_M_formula_78 ?_
      refine lv_bipush (v := nI 100) hx hb d_M_formula_79 (by decide) ?_
      refine lv_aload_n hx hb d_M_formula_81 rfl (lv_at hl 0 rfl) ?_
      refine va_get (D := D) (ci := 3) (v := .int (nI nf)) (C := R_M) (T := F_M) (N := 23) hx hb hts in_M hown hK hP 0 rfl rfl 13 (by decide) (hts _ wd_527) (fun _ h9 => h9) rfl d_M_formula_82 ?_
      refine n_add hx hb d_M_formula_85 ?_
      refine n_iast hx hb hK hP hD hS 10 0 rfl rfl (i := nt + nf) (by omega) (by omega) (updN_I _ _ _) d_M_formula_86 (ws' := (mW ma cI cZ 0 nv nb nt nf na lv nm vw tk ta tb tc tw (updN fk nf k) (updN fa nf a) (upd fb nf kb) (updN od (nt + nf) (100 + nf)) sd aa am vl ho)) rfl (fun H locs hP hD hS => ?_)
      refine lv_aload_n hx hb d_M_formula_87 rfl (lv_at hl 0 rfl) ?_
      refine lv_dup hx hb d_M_formula_88 rfl ?_
      refine va_get (D := D) (ci := 3) (v := .int (nI nf)) (C := R_M) (T := F_M) (N := 23) hx hb hts in_M hown hK hP 0 rfl rfl 13 (by decide) (hts _ wd_527) (fun _ h9 => h9) rfl d_M_formula_89 ?_
      refine lv_iconst (v := nI 1) hx hb d_M_formula_92 (by decide) ?_
      refine n_add hx hb d_M_formula_93 ?_
      refine va_put (D := D) (ci := 3) (v := .int (nI (nf + 1))) (ty := .int) (C := R_M) (T := F_M) (N := 23) hx hb hts in_M t_M tok_M nm_M hown hK hP hD hS 0 rfl rfl 13 (by decide) (hts _ wd_527) (fun _ h9 => h9) rfl (by decide +kernel) rfl rfl (Nat.le_of_ble_eq_true rfl) d_M_formula_94 (fun H locs hP hD hS => ?_)
      have hP : va_P D cls (mW ma cI cZ 0 nv nb nt (nf + 1) na lv nm vw tk ta tb tc tw (updN fk nf k) (updN fa nf a) (upd fb nf kb) (updN od (nt + nf) (100 + nf)) sd aa am vl ho) H := hP
      have hD : va_D A (mW ma cI cZ 0 nv nb nt (nf + 1) na lv nm vw tk ta tb tc tw (updN fk nf k) (updN fa nf a) (upd fb nf kb) (updN od (nt + nf) (100 + nf)) sd aa am vl ho) := hD
      refine lv_aload_n hx hb d_M_formula_97 rfl (lv_at hl 0 rfl) ?_
      refine va_get (D := D) (ci := 3) (v := .int (nI (nf + 1))) (C := R_M) (T := F_M) (N := 23) hx hb hts in_M hown hK hP 0 rfl rfl 13 (by decide) (hts _ wd_527) (fun _ h9 => h9) rfl d_M_formula_98 ?_
      refine lv_iconst (v := nI 1) hx hb d_M_formula_101 (by decide) ?_
      refine n_sub hx hb (by omega) d_M_formula_102 ?_
      exact fn_iret hx hb hr hlocks hAe hK hP hD hS (by rw [Nat.add_sub_cancel]) d_M_formula_103
    · exact absurd c_27 (by omega)
  · exact absurd hf (by rw [c_12]; decide)
set_option maxHeartbeats 4000000 in
set_option maxRecDepth 100000 in
theorem c_M_formula_1 (l : Launch) (D : va_G) (ma : Nat → Nat) (cI cZ : ClassId) (th nv nb nt nf na lv nm : Nat) (vw tk ta : Nat → Nat) (tb tc : Nat → Int32) (tw fk fa : Nat → Nat) (fb : Nat → Int32) (od sd aa am vl : Nat → Nat) (ho : Nat → Bool) (hok : Mok nv nb nt nf na lv nm vw tk ta tb tc tw fk fa fb od sd am vl) (kd ka kb : Int32) (hf : pF nt nf tw kd ka kb = false) : Fn l y_M_formula (wk y_M_formula b_M_formula 4 (some .int)) rm_M_formula D cls [(cI, .int), (cZ, .boolean)] [.ref (ma 0), .int kd, .int ka, .int kb] (mW ma cI cZ th nv nb nt nf na lv nm vw tk ta tb tc tw fk fa fb od sd aa am vl ho) XT (some (.int (nI 0))) (mW ma cI cZ 1 nv nb nt nf na lv nm vw tk ta tb tc tw fk fa fb od sd aa am vl ho) := by
  refine Fn.of (by decide) rfl (Nat.le_of_ble_eq_true rfl) ?_
  intro p e s m below meth c A ls hx hb hml hr hts0 hown hlocks hnm hP hK hD hS hA hAe hX hl
  have hts : ∀ w ∈ lw_ok, w.before _ s = true := fun w h => hts0 w (List.mem_cons_of_mem _ h)
  have hown : s.vm.findClass R_M = some m.cls := hown
  have hP : va_P D cls (mW ma cI cZ th nv nb nt nf na lv nm vw tk ta tb tc tw fk fa fb od sd aa am vl ho) s.heap := hP
  have hl : lv_has ls 4 [(0, .ref (ma 0)), (1, .int kd), (2, .int ka), (3, .int kb)] := hl
  obtain ⟨o_nv, o_nb, o_nt, o_nf, o_na, o_lv, o_nm, o_vw, o_tw, o_am, o_sd, o_T, o_F, o_od, o_vl⟩ := id hok
  refine lv_aload_n hx hb d_M_formula_0 rfl (lv_at hl 0 rfl) ?_
  refine lv_iconst (v := nI 0) hx hb d_M_formula_1 (by decide) ?_
  refine va_put (D := D) (ci := 3) (v := .int (nI 0)) (ty := .int) (C := R_M) (T := F_M) (N := 23) hx hb hts in_M t_M tok_M nm_M hown hK hP hD hS 0 rfl rfl 0 (by decide) (hts _ wd_514) (fun _ h9 => h9) rfl (by decide +kernel) rfl rfl (Nat.le_of_ble_eq_true rfl) d_M_formula_2 (fun H locs hP hD hS => ?_)
  have hP : va_P D cls (mW ma cI cZ 0 nv nb nt nf na lv nm vw tk ta tb tc tw fk fa fb od sd aa am vl ho) H := hP
  have hD : va_D A (mW ma cI cZ 0 nv nb nt nf na lv nm vw tk ta tb tc tw fk fa fb od sd aa am vl ho) := hD
  refine lv_aload_n hx hb d_M_formula_5 rfl (lv_at hl 0 rfl) ?_
  refine lv_iload_n hx hb d_M_formula_6 rfl (lv_at hl 1 rfl) ?_
  refine lv_iload_n hx hb d_M_formula_7 rfl (lv_at hl 2 rfl) ?_
  refine lv_iload_n hx hb d_M_formula_8 rfl (lv_at hl 3 rfl) ?_
  refine fn_V (ws' := (mW ma cI cZ 0 nv nb nt nf na lv nm vw tk ta tb tc tw fk fa fb od sd aa am vl ho)) (w1 := (mW ma cI cZ 0 nv nb nt nf na lv nm vw tk ta tb tc tw fk fa fb od sd aa am vl ho)) (wc := (mW ma cI cZ 0 nv nb nt nf na lv nm vw tk ta tb tc tw fk fa fb od sd aa am vl ho)) (wr := []) ⟨hx, hb, hml, hown, hts⟩ (c_M_can l D ma cI cZ 0 nv nb nt nf na lv nm vw tk ta tb tc tw fk fa fb od sd aa am vl ho hok kd ka kb) ⟨callB_of 3 hts (gW wd_627) rfl rfl rfl (hts _ wd_4) (hts _ wd_624) hd_M_can ⟨Nat.le_of_ble_eq_true rfl, Nat.le_of_ble_eq_true rfl⟩, hts _ wd_626, hts _ wd_p27⟩ XT_ok (fun _ _ _ => trivial) hK hP hD hS hA 0 3 rfl rfl rfl [0, 1] [0, 1, 2, 3, 4, 5, 6, 7, 8, 9, 10, 11, 12, 13, 14, 15] [] [0, 1, 2, 3, 4, 5, 6, 7, 8, 9, 10, 11, 12, 13, 14, 15] rfl rfl rfl rfl rfl (by decide) rfl rfl rfl hl.1 rfl (Nat.le_of_ble_eq_true rfl) d_M_formula_9 ⟨Nat.zero_le _, Nat.zero_le _⟩ (st1 := [.int (bI (pF nt nf tw kd ka kb))]) rfl (fun H locs hP hD hS => ?_)
  refine b_if_ne (tgt := 21) hx hb d_M_formula_12 (by decide) (fun c_12 => ?_) (fun c_12 => ?_)
  · exact absurd c_12 (by rw [hf]; decide)
  · refine lv_aload_n hx hb d_M_formula_15 rfl (lv_at hl 0 rfl) ?_
    refine lv_iconst (v := nI 1) hx hb d_M_formula_16 (by decide) ?_
    refine fn_V (ws' := (mW ma cI cZ 1 nv nb nt nf na lv nm vw tk ta tb tc tw fk fa fb od sd aa am vl ho)) (w1 := (mW ma cI cZ 1 nv nb nt nf na lv nm vw tk ta tb tc tw fk fa fb od sd aa am vl ho)) (wc := (mW ma cI cZ 0 nv nb nt nf na lv nm vw tk ta tb tc tw fk fa fb od sd aa am vl ho)) (wr := []) ⟨hx, hb, hml, hown, hts⟩ (c_M_raise l D ma cI cZ 0 nv nb nt nf na lv nm vw tk ta tb tc tw fk fa fb od sd aa am vl ho hok 1) ⟨callB_of 1 hts (gW wd_599) rfl rfl rfl (hts _ wd_4) (hts _ wd_596) hd_M_raise ⟨Nat.le_of_ble_eq_true rfl, Nat.le_of_ble_eq_true rfl⟩, hts _ wd_598, hts _ wd_p22⟩ XT_ok (fun _ _ _ => trivial) hK hP hD hS hA 0 3 rfl rfl rfl [0, 1] [0, 1, 2, 3, 4, 5, 6, 7, 8, 9, 10, 11, 12, 13, 14, 15] [] [0, 1, 2, 3, 4, 5, 6, 7, 8, 9, 10, 11, 12, 13, 14, 15] rfl rfl rfl rfl rfl (by decide) rfl rfl rfl hl.1 rfl (Nat.le_of_ble_eq_true rfl) d_M_formula_17 ⟨Nat.zero_le _, Nat.zero_le _⟩ (st1 := [.int (nI 0)]) rfl (fun H locs hP hD hS => ?_)
    exact fn_iret hx hb hr hlocks hAe hK hP hD hS rfl d_M_formula_20
set_option maxHeartbeats 4000000 in
set_option maxRecDepth 100000 in
theorem c_M_formula_2 (l : Launch) (D : va_G) (ma : Nat → Nat) (cI cZ : ClassId) (th nv nb nt nf na lv nm : Nat) (vw tk ta : Nat → Nat) (tb tc : Nat → Int32) (tw fk fa : Nat → Nat) (fb : Nat → Int32) (od sd aa am vl : Nat → Nat) (ho : Nat → Bool) (hok : Mok nv nb nt nf na lv nm vw tk ta tb tc tw fk fa fb od sd am vl) (kd ka kb : Int32) (hf : pF nt nf tw kd ka kb = true) (hnf : 50 ≤ nf) : Fn l y_M_formula (wk y_M_formula b_M_formula 4 (some .int)) rm_M_formula D cls [(cI, .int), (cZ, .boolean)] [.ref (ma 0), .int kd, .int ka, .int kb] (mW ma cI cZ th nv nb nt nf na lv nm vw tk ta tb tc tw fk fa fb od sd aa am vl ho) XT (some (.int (nI 0))) (mW ma cI cZ 2 nv nb nt nf na lv nm vw tk ta tb tc tw fk fa fb od sd aa am vl ho) := by
  refine Fn.of (by decide) rfl (Nat.le_of_ble_eq_true rfl) ?_
  intro p e s m below meth c A ls hx hb hml hr hts0 hown hlocks hnm hP hK hD hS hA hAe hX hl
  have hts : ∀ w ∈ lw_ok, w.before _ s = true := fun w h => hts0 w (List.mem_cons_of_mem _ h)
  have hown : s.vm.findClass R_M = some m.cls := hown
  have hP : va_P D cls (mW ma cI cZ th nv nb nt nf na lv nm vw tk ta tb tc tw fk fa fb od sd aa am vl ho) s.heap := hP
  have hl : lv_has ls 4 [(0, .ref (ma 0)), (1, .int kd), (2, .int ka), (3, .int kb)] := hl
  obtain ⟨o_nv, o_nb, o_nt, o_nf, o_na, o_lv, o_nm, o_vw, o_tw, o_am, o_sd, o_T, o_F, o_od, o_vl⟩ := id hok
  refine lv_aload_n hx hb d_M_formula_0 rfl (lv_at hl 0 rfl) ?_
  refine lv_iconst (v := nI 0) hx hb d_M_formula_1 (by decide) ?_
  refine va_put (D := D) (ci := 3) (v := .int (nI 0)) (ty := .int) (C := R_M) (T := F_M) (N := 23) hx hb hts in_M t_M tok_M nm_M hown hK hP hD hS 0 rfl rfl 0 (by decide) (hts _ wd_514) (fun _ h9 => h9) rfl (by decide +kernel) rfl rfl (Nat.le_of_ble_eq_true rfl) d_M_formula_2 (fun H locs hP hD hS => ?_)
  have hP : va_P D cls (mW ma cI cZ 0 nv nb nt nf na lv nm vw tk ta tb tc tw fk fa fb od sd aa am vl ho) H := hP
  have hD : va_D A (mW ma cI cZ 0 nv nb nt nf na lv nm vw tk ta tb tc tw fk fa fb od sd aa am vl ho) := hD
  refine lv_aload_n hx hb d_M_formula_5 rfl (lv_at hl 0 rfl) ?_
  refine lv_iload_n hx hb d_M_formula_6 rfl (lv_at hl 1 rfl) ?_
  refine lv_iload_n hx hb d_M_formula_7 rfl (lv_at hl 2 rfl) ?_
  refine lv_iload_n hx hb d_M_formula_8 rfl (lv_at hl 3 rfl) ?_
  refine fn_V (ws' := (mW ma cI cZ 0 nv nb nt nf na lv nm vw tk ta tb tc tw fk fa fb od sd aa am vl ho)) (w1 := (mW ma cI cZ 0 nv nb nt nf na lv nm vw tk ta tb tc tw fk fa fb od sd aa am vl ho)) (wc := (mW ma cI cZ 0 nv nb nt nf na lv nm vw tk ta tb tc tw fk fa fb od sd aa am vl ho)) (wr := []) ⟨hx, hb, hml, hown, hts⟩ (c_M_can l D ma cI cZ 0 nv nb nt nf na lv nm vw tk ta tb tc tw fk fa fb od sd aa am vl ho hok kd ka kb) ⟨callB_of 3 hts (gW wd_627) rfl rfl rfl (hts _ wd_4) (hts _ wd_624) hd_M_can ⟨Nat.le_of_ble_eq_true rfl, Nat.le_of_ble_eq_true rfl⟩, hts _ wd_626, hts _ wd_p27⟩ XT_ok (fun _ _ _ => trivial) hK hP hD hS hA 0 3 rfl rfl rfl [0, 1] [0, 1, 2, 3, 4, 5, 6, 7, 8, 9, 10, 11, 12, 13, 14, 15] [] [0, 1, 2, 3, 4, 5, 6, 7, 8, 9, 10, 11, 12, 13, 14, 15] rfl rfl rfl rfl rfl (by decide) rfl rfl rfl hl.1 rfl (Nat.le_of_ble_eq_true rfl) d_M_formula_9 ⟨Nat.zero_le _, Nat.zero_le _⟩ (st1 := [.int (bI (pF nt nf tw kd ka kb))]) rfl (fun H locs hP hD hS => ?_)
  refine b_if_ne (tgt := 21) hx hb d_M_formula_12 (by decide) (fun c_12 => ?_) (fun c_12 => ?_)
  · refine lv_aload_n hx hb d_M_formula_21 rfl (lv_at hl 0 rfl) ?_
    refine va_get (D := D) (ci := 3) (v := .int (nI nf)) (C := R_M) (T := F_M) (N := 23) hx hb hts in_M hown hK hP 0 rfl rfl 13 (by decide) (hts _ wd_527) (fun _ h9 => h9) rfl d_M_formula_22 ?_
    refine lv_bipush (v := nI 50) hx hb d_M_formula_25 (by decide) ?_
    refine z_icmp_ne (tgt := 36) hx hb (nI_toInt (by omega)) (nI_toInt (by omega)) d_M_formula_27 (by decide) (fun c_27 => ?_) (fun c_27 => ?_)
    · exact absurd c_27 (by omega)
    · refine lv_aload_n hx hb d_M_formula_30 rfl (lv_at hl 0 rfl) ?_
      refine lv_iconst (v := nI 2) hx hb d_M_formula_31 (by decide) ?_
      refine fn_V (ws' := (mW ma cI cZ 2 nv nb nt nf na lv nm vw tk ta tb tc tw fk fa fb od sd aa am vl ho)) (w1 := (mW ma cI cZ 2 nv nb nt nf na lv nm vw tk ta tb tc tw fk fa fb od sd aa am vl ho)) (wc := (mW ma cI cZ 0 nv nb nt nf na lv nm vw tk ta tb tc tw fk fa fb od sd aa am vl ho)) (wr := []) ⟨hx, hb, hml, hown, hts⟩ (c_M_raise l D ma cI cZ 0 nv nb nt nf na lv nm vw tk ta tb tc tw fk fa fb od sd aa am vl ho hok 2) ⟨callB_of 1 hts (gW wd_599) rfl rfl rfl (hts _ wd_4) (hts _ wd_596) hd_M_raise ⟨Nat.le_of_ble_eq_true rfl, Nat.le_of_ble_eq_true rfl⟩, hts _ wd_598, hts _ wd_p22⟩ XT_ok (fun _ _ _ => trivial) hK hP hD hS hA 0 3 rfl rfl rfl [0, 1] [0, 1, 2, 3, 4, 5, 6, 7, 8, 9, 10, 11, 12, 13, 14, 15] [] [0, 1, 2, 3, 4, 5, 6, 7, 8, 9, 10, 11, 12, 13, 14, 15] rfl rfl rfl rfl rfl (by decide) rfl rfl rfl hl.1 rfl (Nat.le_of_ble_eq_true rfl) d_M_formula_32 ⟨Nat.zero_le _, Nat.zero_le _⟩ (st1 := [.int (nI 0)]) rfl (fun H locs hP hD hS => ?_)
      exact fn_iret hx hb hr hlocks hAe hK hP hD hS rfl d_M_formula_35
  · exact absurd hf (by rw [c_12]; decide)
set_option maxHeartbeats 4000000 in
set_option maxRecDepth 100000 in
theorem c_M_signed (l : Launch) (D : va_G) (v w : Nat) (h1 : 1 ≤ w) (h4 : w ≤ 4) (hv : v < 16) : Fn l y_M_signed (wk y_M_signed b_M_signed 2 (some .int)) rm_M_signed D cls [] [.int (nI v), .int (nI w)] (nilW) XT (some (.int (sgI v w))) (nilW) := by
  refine Fn.of (by decide) rfl (Nat.le_of_ble_eq_true rfl) ?_
  intro p e s m below meth c A ls hx hb hml hr hts0 hown hlocks hnm hP hK hD hS hA hAe hX hl
  have hts : ∀ w ∈ lw_ok, w.before _ s = true := fun w h => hts0 w (List.mem_cons_of_mem _ h)
  have hown : s.vm.findClass R_M = some m.cls := hown
  have hP : va_P D cls (nilW) s.heap := hP
  have hl : lv_has ls 2 [(0, .int (nI v)), (1, .int (nI w))] := hl
  have o2 : 2 ^ (w - 1) ≤ 8 := show 2 ^ (w - 1) ≤ 2 ^ 3 from Nat.pow_le_pow_right (by decide) (by omega)
  refine lv_iload_n hx hb d_M_signed_0 rfl (lv_at hl 0 rfl) ?_
  refine lv_iconst (v := nI 1) hx hb d_M_signed_1 (by decide) ?_
  refine lv_iload_n hx hb d_M_signed_2 rfl (lv_at hl 1 rfl) ?_
  refine lv_iconst (v := nI 1) hx hb d_M_signed_3 (by decide) ?_
  refine n_sub hx hb (by omega) d_M_signed_4 ?_
  refine n_shl1 hx hb (by omega) d_M_signed_5 ?_
  refine z_icmp_lt (tgt := 17) hx hb (nI_toInt (by omega)) (nI_toInt (by omega)) d_M_signed_6 (by decide) (fun c_6 => ?_) (fun c_6 => ?_)
  · refine lv_iload_n hx hb d_M_signed_17 rfl (lv_at hl 0 rfl) ?_
    exact fn_iret hx hb hr hlocks hAe hK hP hD hS (if_neg (by omega)).symm d_M_signed_18
  · refine lv_iload_n hx hb d_M_signed_9 rfl (lv_at hl 0 rfl) ?_
    refine lv_iconst (v := nI 1) hx hb d_M_signed_10 (by decide) ?_
    refine lv_iload_n hx hb d_M_signed_11 rfl (lv_at hl 1 rfl) ?_
    refine n_shl1 hx hb (by omega) d_M_signed_12 ?_
    refine lv_isub hx hb d_M_signed_13 ?_
    refine lv_goto (tgt := 18) hx hb d_M_signed_14 (by decide) ?_
    exact fn_iret hx hb hr hlocks hAe hK hP hD hS (if_pos (by omega)).symm d_M_signed_18
set_option maxHeartbeats 4000000 in
set_option maxRecDepth 100000 in
theorem c_M_given (l : Launch) (D : va_G) (ma : Nat → Nat) (cI cZ : ClassId) (th nv nb nt nf na lv nm : Nat) (vw tk ta : Nat → Nat) (tb tc : Nat → Int32) (tw fk fa : Nat → Nat) (fb : Nat → Int32) (od sd aa am vl : Nat → Nat) (ho : Nat → Bool) (hok : Mok nv nb nt nf na lv nm vw tk ta tb tc tw fk fa fb od sd am vl) (n v : Nat) (hn : n < 1024) (hv : v < nv) : Fn l y_M_given (wk y_M_given b_M_given 5 (some .int)) rm_M_given D cls [(cI, .int), (cZ, .boolean)] [.ref (ma 0), .int (nI n), .int (nI v)] (mW ma cI cZ th nv nb nt nf na lv nm vw tk ta tb tc tw fk fa fb od sd aa am vl ho) XT (some (.int (nI (gvN nv vw n v)))) (mW ma cI cZ th nv nb nt nf na lv nm vw tk ta tb tc tw fk fa fb od sd aa am vl ho) := by
  refine Fn.of (by decide) rfl (Nat.le_of_ble_eq_true rfl) ?_
  intro p e s m below meth c A ls hx hb hml hr hts0 hown hlocks hnm hP hK hD hS hA hAe hX hl
  have hts : ∀ w ∈ lw_ok, w.before _ s = true := fun w h => hts0 w (List.mem_cons_of_mem _ h)
  have hown : s.vm.findClass R_M = some m.cls := hown
  have hP : va_P D cls (mW ma cI cZ th nv nb nt nf na lv nm vw tk ta tb tc tw fk fa fb od sd aa am vl ho) s.heap := hP
  have hl : lv_has ls 5 [(0, .ref (ma 0)), (1, .int (nI n)), (2, .int (nI v))] := hl
  obtain ⟨o_nv, o_nb, o_nt, o_nf, o_na, o_lv, o_nm, o_vw, o_tw, o_am, o_sd, o_T, o_F, o_od, o_vl⟩ := id hok
  have ov := o_vw v hv
  have o2 : 1 ≤ 2 ^ vw v := Nat.one_le_two_pow
  refine lv_iconst (v := nI 0) hx hb d_M_given_0 (by decide) ?_
  refine lv_istore_n (lv' := [(3, .int (nI 0)), (0, .ref (ma 0)), (1, .int (nI n)), (2, .int (nI v))]) hx hb d_M_given_1 rfl hl (by decide) rfl (fun ls hl => ?_)
  refine lv_iload_n hx hb d_M_given_2 rfl (lv_at hl 3 rfl) ?_
  refine lv_iconst (v := nI 1) hx hb d_M_given_3 (by decide) ?_
  refine n_add hx hb d_M_given_4 ?_
  refine lv_istore (lv' := [(4, .int (nI (v + 1))), (3, .int (nI 0)), (0, .ref (ma 0)), (1, .int (nI n)), (2, .int (nI v))]) hx hb d_M_given_5 hl (by decide) rfl (fun ls hl => ?_)
  refine w_loop 7 [] (nv - (v + 1)) (fun i H locs ls => va_P D cls (mW ma cI cZ th nv nb nt nf na lv nm vw tk ta tb tc tw fk fa fb od sd aa am vl ho) H ∧ va_D A (mW ma cI cZ th nv nb nt nf na lv nm vw tk ta tb tc tw fk fa fb od sd aa am vl ho) ∧ va_S A s.heap H locs ∧ lv_has ls 5 [(4, .int (nI (v + 1 + i))), (3, .int (nI (sW vw (v + 1) i))), (0, .ref (ma 0)), (1, .int (nI n)), (2, .int (nI v))]) ?_ 0 (Nat.zero_le _) _ _ ls ⟨hP, hD, hS, lv_sub hl [0, 1, 2, 3, 4] rfl⟩
  intro i hi ih H locs ls ⟨hP, hD, hS, hl⟩
  have sl := sW_le (f := vw) (lo := v + 1) (hi := nv) (fun j hj => (o_vw j hj).2) i (by omega)
  refine lv_iload hx hb d_M_given_7 (lv_at hl 0 rfl) ?_
  refine lv_aload_n hx hb d_M_given_9 rfl (lv_at hl 2 rfl) ?_
  refine va_get (D := D) (ci := 3) (v := .int (nI nv)) (C := R_M) (T := F_M) (N := 23) hx hb hts in_M hown hK hP 0 rfl rfl 2 (by decide) (hts _ wd_516) (fun _ h9 => h9) rfl d_M_given_10 ?_
  refine z_icmp_ge (tgt := 32) hx hb (nI_toInt (by omega)) (nI_toInt (by omega)) d_M_given_13 (by decide) (fun c_13 => ?_) (fun c_13 => ?_)
  · have he : nv - (v + 1) = i := by omega
    refine lv_iload_n hx hb d_M_given_32 rfl (lv_at hl 3 rfl) ?_
    refine lv_iload_n hx hb d_M_given_33 rfl (lv_at hl 1 rfl) ?_
    refine n_shr hx hb (by omega) (by omega) d_M_given_34 ?_
    refine lv_iconst (v := nI 1) hx hb d_M_given_35 (by decide) ?_
    refine lv_aload_n hx hb d_M_given_36 rfl (lv_at hl 2 rfl) ?_
    refine va_get (D := D) (ci := 3) (v := .ref (ma 1)) (C := R_M) (T := F_M) (N := 23) hx hb hts in_M hown hK hP 0 rfl rfl 1 (by decide) (hts _ wd_515) (fun _ h9 => h9) rfl d_M_given_37 ?_
    refine lv_iload_n hx hb d_M_given_40 rfl (lv_at hl 4 rfl) ?_
    refine n_iald hx hb hK hP 1 0 rfl rfl (i := v) (by omega) (by omega) d_M_given_41 ?_
    refine n_shl1 hx hb (by omega) d_M_given_42 ?_
    refine lv_iconst (v := nI 1) hx hb d_M_given_43 (by decide) ?_
    refine n_sub hx hb (by omega) d_M_given_44 ?_
    refine n_and hx hb d_M_given_45 ?_
    exact fn_iret hx hb hr hlocks hAe hK hP hD hS (by unfold gvN; rw [he]) d_M_given_46
  · refine lv_iload_n hx hb d_M_given_16 rfl (lv_at hl 1 rfl) ?_
    refine lv_aload_n hx hb d_M_given_17 rfl (lv_at hl 2 rfl) ?_
    refine va_get (D := D) (ci := 3) (v := .ref (ma 1)) (C := R_M) (T := F_M) (N := 23) hx hb hts in_M hown hK hP 0 rfl rfl 1 (by decide) (hts _ wd_515) (fun _ h9 => h9) rfl d_M_given_18 ?_
    refine lv_iload hx hb d_M_given_21 (lv_at hl 0 rfl) ?_
    refine n_iald hx hb hK hP 1 0 rfl rfl (i := v + 1 + i) (by omega) (by omega) d_M_given_23 ?_
    refine n_add hx hb d_M_given_24 ?_
    refine lv_istore_n (lv' := [(3, .int (nI ((sW vw (v + 1) i) + (vw (v + 1 + i))))), (4, .int (nI (v + 1 + i))), (0, .ref (ma 0)), (1, .int (nI n)), (2, .int (nI v))]) hx hb d_M_given_25 rfl hl (by decide) rfl (fun ls hl => ?_)
    refine lv_iinc (v := nI ((v + 1 + i) + 1)) (lv' := [(4, .int (nI ((v + 1 + i) + 1))), (3, .int (nI ((sW vw (v + 1) i) + (vw (v + 1 + i))))), (0, .ref (ma 0)), (1, .int (nI n)), (2, .int (nI v))]) hx hb d_M_given_26 hl (k := 1) rfl (by rw [← nI_1]; rfl) (by decide) rfl (fun ls hl => ?_)
    refine lv_goto (tgt := 7) hx hb d_M_given_29 (by decide) ?_
    exact ih _ _ _ (by omega) ⟨hP, hD, hS, lv_sub hl [0, 1, 2, 3, 4] rfl⟩
set_option maxHeartbeats 4000000 in
set_option maxRecDepth 100000 in
theorem c_M_raw_0 (l : Launch) (D : va_G) (ma : Nat → Nat) (cI cZ : ClassId) (th nv nb nt nf na lv nm : Nat) (vw tk ta : Nat → Nat) (tb tc : Nat → Int32) (tw fk fa : Nat → Nat) (fb : Nat → Int32) (od sd aa am vl : Nat → Nat) (ho : Nat → Bool) (hok : Mok nv nb nt nf na lv nm vw tk ta tb tc tw fk fa fb od sd am vl) (t n : Nat) (hn : n < 1024) (ht : t < nt) (hk : tk t = 0) (ha : ta t < 2 ^ 31) (kb0 : Nat) (kc0 : Nat) : Fn l y_M_raw (wk y_M_raw b_M_raw 5 (some .int)) rm_M_raw D cls [(cI, .int), (cZ, .boolean)] [.ref (ma 0), .int (nI t), .int (nI n)] (mW ma cI cZ th nv nb nt nf na lv nm vw tk ta tb tc tw fk fa fb od sd aa am vl ho) XT (some (.int (rawI 0 (ta t) kb0 kc0 (gvN nv vw n) vl ho tw))) (mW ma cI cZ th nv nb nt nf na lv nm vw tk ta tb tc tw fk fa fb od sd aa am vl ho) := by
  refine Fn.of (by decide) rfl (Nat.le_of_ble_eq_true rfl) ?_
  intro p e s m below meth c A ls hx hb hml hr hts0 hown hlocks hnm hP hK hD hS hA hAe hX hl
  have hts : ∀ w ∈ lw_ok, w.before _ s = true := fun w h => hts0 w (List.mem_cons_of_mem _ h)
  have hown : s.vm.findClass R_M = some m.cls := hown
  have hP : va_P D cls (mW ma cI cZ th nv nb nt nf na lv nm vw tk ta tb tc tw fk fa fb od sd aa am vl ho) s.heap := hP
  have hl : lv_has ls 5 [(0, .ref (ma 0)), (1, .int (nI t)), (2, .int (nI n))] := hl
  obtain ⟨o_nv, o_nb, o_nt, o_nf, o_na, o_lv, o_nm, o_vw, o_tw, o_am, o_sd, o_T, o_F, o_od, o_vl⟩ := id hok
  have va := o_vl (ta t)
  refine lv_aload_n hx hb d_M_raw_0 rfl (lv_at hl 0 rfl) ?_
  refine va_get (D := D) (ci := 3) (v := .ref (ma 3)) (C := R_M) (T := F_M) (N := 23) hx hb hts in_M hown hK hP 0 rfl rfl 5 (by decide) (hts _ wd_519) (fun _ h9 => h9) rfl d_M_raw_1 ?_
  refine lv_iload_n hx hb d_M_raw_4 rfl (lv_at hl 1 rfl) ?_
  refine n_iald hx hb hK hP 3 0 rfl rfl (i := t) (by omega) (by omega) d_M_raw_5 ?_
  refine lv_istore_n (lv' := [(3, .int (nI (ta t))), (0, .ref (ma 0)), (1, .int (nI t)), (2, .int (nI n))]) hx hb d_M_raw_6 rfl hl (by decide) rfl (fun ls hl => ?_)
  refine lv_aload_n hx hb d_M_raw_7 rfl (lv_at hl 1 rfl) ?_
  refine va_get (D := D) (ci := 3) (v := .ref (ma 4)) (C := R_M) (T := F_M) (N := 23) hx hb hts in_M hown hK hP 0 rfl rfl 6 (by decide) (hts _ wd_520) (fun _ h9 => h9) rfl d_M_raw_8 ?_
  refine lv_iload_n hx hb d_M_raw_11 rfl (lv_at hl 2 rfl) ?_
  refine n_iald hx hb hK hP 4 0 rfl rfl (i := t) (by omega) (by omega) d_M_raw_12 ?_
  refine lv_istore (lv' := [(4, .int (tb t)), (3, .int (nI (ta t))), (0, .ref (ma 0)), (1, .int (nI t)), (2, .int (nI n))]) hx hb d_M_raw_13 hl (by decide) rfl (fun ls hl => ?_)
  refine lv_aload_n hx hb d_M_raw_15 rfl (lv_at hl 2 rfl) ?_
  refine va_get (D := D) (ci := 3) (v := .ref (ma 2)) (C := R_M) (T := F_M) (N := 23) hx hb hts in_M hown hK hP 0 rfl rfl 4 (by decide) (hts _ wd_518) (fun _ h9 => h9) rfl d_M_raw_16 ?_
  refine lv_iload_n hx hb d_M_raw_19 rfl (lv_at hl 3 rfl) ?_
  refine n_iald hx hb hK hP 2 0 rfl rfl (i := t) (by omega) (by omega) d_M_raw_20 ?_
  rw [hk]
  refine lv_tableIn (tgt := 92) (off := 71) hx hb d_M_raw_21 (by decide +kernel) (by decide +kernel) (by decide +kernel) (by decide) ?_
  refine lv_iload_n hx hb d_M_raw_92 rfl (lv_at hl 1 rfl) ?_
  exact fn_iret hx hb hr hlocks hAe hK hP hD hS rfl d_M_raw_93
set_option maxHeartbeats 4000000 in
set_option maxRecDepth 100000 in
theorem c_M_raw_1 (l : Launch) (D : va_G) (ma : Nat → Nat) (cI cZ : ClassId) (th nv nb nt nf na lv nm : Nat) (vw tk ta : Nat → Nat) (tb tc : Nat → Int32) (tw fk fa : Nat → Nat) (fb : Nat → Int32) (od sd aa am vl : Nat → Nat) (ho : Nat → Bool) (hok : Mok nv nb nt nf na lv nm vw tk ta tb tc tw fk fa fb od sd am vl) (t n : Nat) (hn : n < 1024) (ht : t < nt) (hk : tk t = 1) (ha : ta t < nv) (kb0 : Nat) (kc0 : Nat) : Fn l y_M_raw (wk y_M_raw b_M_raw 5 (some .int)) rm_M_raw D cls [(cI, .int), (cZ, .boolean)] [.ref (ma 0), .int (nI t), .int (nI n)] (mW ma cI cZ th nv nb nt nf na lv nm vw tk ta tb tc tw fk fa fb od sd aa am vl ho) XT (some (.int (rawI 1 (ta t) kb0 kc0 (gvN nv vw n) vl ho tw))) (mW ma cI cZ th nv nb nt nf na lv nm vw tk ta tb tc tw fk fa fb od sd aa am vl ho) := by
  refine Fn.of (by decide) rfl (Nat.le_of_ble_eq_true rfl) ?_
  intro p e s m below meth c A ls hx hb hml hr hts0 hown hlocks hnm hP hK hD hS hA hAe hX hl
  have hts : ∀ w ∈ lw_ok, w.before _ s = true := fun w h => hts0 w (List.mem_cons_of_mem _ h)
  have hown : s.vm.findClass R_M = some m.cls := hown
  have hP : va_P D cls (mW ma cI cZ th nv nb nt nf na lv nm vw tk ta tb tc tw fk fa fb od sd aa am vl ho) s.heap := hP
  have hl : lv_has ls 5 [(0, .ref (ma 0)), (1, .int (nI t)), (2, .int (nI n))] := hl
  obtain ⟨o_nv, o_nb, o_nt, o_nf, o_na, o_lv, o_nm, o_vw, o_tw, o_am, o_sd, o_T, o_F, o_od, o_vl⟩ := id hok
  have va := o_vl (ta t)
  refine lv_aload_n hx hb d_M_raw_0 rfl (lv_at hl 0 rfl) ?_
  refine va_get (D := D) (ci := 3) (v := .ref (ma 3)) (C := R_M) (T := F_M) (N := 23) hx hb hts in_M hown hK hP 0 rfl rfl 5 (by decide) (hts _ wd_519) (fun _ h9 => h9) rfl d_M_raw_1 ?_
  refine lv_iload_n hx hb d_M_raw_4 rfl (lv_at hl 1 rfl) ?_
  refine n_iald hx hb hK hP 3 0 rfl rfl (i := t) (by omega) (by omega) d_M_raw_5 ?_
  refine lv_istore_n (lv' := [(3, .int (nI (ta t))), (0, .ref (ma 0)), (1, .int (nI t)), (2, .int (nI n))]) hx hb d_M_raw_6 rfl hl (by decide) rfl (fun ls hl => ?_)
  refine lv_aload_n hx hb d_M_raw_7 rfl (lv_at hl 1 rfl) ?_
  refine va_get (D := D) (ci := 3) (v := .ref (ma 4)) (C := R_M) (T := F_M) (N := 23) hx hb hts in_M hown hK hP 0 rfl rfl 6 (by decide) (hts _ wd_520) (fun _ h9 => h9) rfl d_M_raw_8 ?_
  refine lv_iload_n hx hb d_M_raw_11 rfl (lv_at hl 2 rfl) ?_
  refine n_iald hx hb hK hP 4 0 rfl rfl (i := t) (by omega) (by omega) d_M_raw_12 ?_
  refine lv_istore (lv' := [(4, .int (tb t)), (3, .int (nI (ta t))), (0, .ref (ma 0)), (1, .int (nI t)), (2, .int (nI n))]) hx hb d_M_raw_13 hl (by decide) rfl (fun ls hl => ?_)
  refine lv_aload_n hx hb d_M_raw_15 rfl (lv_at hl 2 rfl) ?_
  refine va_get (D := D) (ci := 3) (v := .ref (ma 2)) (C := R_M) (T := F_M) (N := 23) hx hb hts in_M hown hK hP 0 rfl rfl 4 (by decide) (hts _ wd_518) (fun _ h9 => h9) rfl d_M_raw_16 ?_
  refine lv_iload_n hx hb d_M_raw_19 rfl (lv_at hl 3 rfl) ?_
  refine n_iald hx hb hK hP 2 0 rfl rfl (i := t) (by omega) (by omega) d_M_raw_20 ?_
  rw [hk]
  refine lv_tableIn (tgt := 94) (off := 73) hx hb d_M_raw_21 (by decide +kernel) (by decide +kernel) (by decide +kernel) (by decide) ?_
  refine lv_aload_n hx hb d_M_raw_94 rfl (lv_at hl 2 rfl) ?_
  refine lv_iload_n hx hb d_M_raw_95 rfl (lv_at hl 4 rfl) ?_
  refine lv_iload_n hx hb d_M_raw_96 rfl (lv_at hl 1 rfl) ?_
  refine fn_V (ws' := (mW ma cI cZ th nv nb nt nf na lv nm vw tk ta tb tc tw fk fa fb od sd aa am vl ho)) (w1 := (mW ma cI cZ th nv nb nt nf na lv nm vw tk ta tb tc tw fk fa fb od sd aa am vl ho)) (wc := (mW ma cI cZ th nv nb nt nf na lv nm vw tk ta tb tc tw fk fa fb od sd aa am vl ho)) (wr := []) ⟨hx, hb, hml, hown, hts⟩ (c_M_given l D ma cI cZ th nv nb nt nf na lv nm vw tk ta tb tc tw fk fa fb od sd aa am vl ho hok n (ta t) (by omega) (by omega)) ⟨callB_of 2 hts (gW wd_659) rfl rfl rfl (hts _ wd_4) (hts _ wd_656) hd_M_given ⟨Nat.le_of_ble_eq_true rfl, Nat.le_of_ble_eq_true rfl⟩, hts _ wd_658, hts _ wd_p31⟩ XT_ok (fun _ _ _ => trivial) hK hP hD hS hA 0 3 rfl rfl rfl [0, 1] [0, 1, 2, 3, 4, 5, 6, 7, 8, 9, 10, 11, 12, 13, 14, 15] [] [0, 1, 2, 3, 4, 5, 6, 7, 8, 9, 10, 11, 12, 13, 14, 15] rfl rfl rfl rfl rfl (by decide) rfl rfl rfl hl.1 rfl (Nat.le_of_ble_eq_true rfl) d_M_raw_97 ⟨Nat.zero_le _, Nat.zero_le _⟩ (st1 := [.int (nI (gvN nv vw n (ta t)))]) rfl (fun H locs hP hD hS => ?_)
  exact fn_iret hx hb hr hlocks hAe hK hP hD hS rfl d_M_raw_100
set_option maxHeartbeats 4000000 in
set_option maxRecDepth 100000 in
theorem c_M_raw_2 (l : Launch) (D : va_G) (ma : Nat → Nat) (cI cZ : ClassId) (th nv nb nt nf na lv nm : Nat) (vw tk ta : Nat → Nat) (tb tc : Nat → Int32) (tw fk fa : Nat → Nat) (fb : Nat → Int32) (od sd aa am vl : Nat → Nat) (ho : Nat → Bool) (hok : Mok nv nb nt nf na lv nm vw tk ta tb tc tw fk fa fb od sd am vl) (t n : Nat) (hn : n < 1024) (ht : t < nt) (hk : tk t = 2) (ha : ta t < nt) (j : Nat) (hj : j < nt) (hbj : tb t = nI j)  (kc0 : Nat) : Fn l y_M_raw (wk y_M_raw b_M_raw 5 (some .int)) rm_M_raw D cls [(cI, .int), (cZ, .boolean)] [.ref (ma 0), .int (nI t), .int (nI n)] (mW ma cI cZ th nv nb nt nf na lv nm vw tk ta tb tc tw fk fa fb od sd aa am vl ho) XT (some (.int (rawI 2 (ta t) j kc0 (gvN nv vw n) vl ho tw))) (mW ma cI cZ th nv nb nt nf na lv nm vw tk ta tb tc tw fk fa fb od sd aa am vl ho) := by
  refine Fn.of (by decide) rfl (Nat.le_of_ble_eq_true rfl) ?_
  intro p e s m below meth c A ls hx hb hml hr hts0 hown hlocks hnm hP hK hD hS hA hAe hX hl
  have hts : ∀ w ∈ lw_ok, w.before _ s = true := fun w h => hts0 w (List.mem_cons_of_mem _ h)
  have hown : s.vm.findClass R_M = some m.cls := hown
  have hP : va_P D cls (mW ma cI cZ th nv nb nt nf na lv nm vw tk ta tb tc tw fk fa fb od sd aa am vl ho) s.heap := hP
  have hl : lv_has ls 5 [(0, .ref (ma 0)), (1, .int (nI t)), (2, .int (nI n))] := hl
  obtain ⟨o_nv, o_nb, o_nt, o_nf, o_na, o_lv, o_nm, o_vw, o_tw, o_am, o_sd, o_T, o_F, o_od, o_vl⟩ := id hok
  have va := o_vl (ta t)
  have vb := o_vl j
  refine lv_aload_n hx hb d_M_raw_0 rfl (lv_at hl 0 rfl) ?_
  refine va_get (D := D) (ci := 3) (v := .ref (ma 3)) (C := R_M) (T := F_M) (N := 23) hx hb hts in_M hown hK hP 0 rfl rfl 5 (by decide) (hts _ wd_519) (fun _ h9 => h9) rfl d_M_raw_1 ?_
  refine lv_iload_n hx hb d_M_raw_4 rfl (lv_at hl 1 rfl) ?_
  refine n_iald hx hb hK hP 3 0 rfl rfl (i := t) (by omega) (by omega) d_M_raw_5 ?_
  refine lv_istore_n (lv' := [(3, .int (nI (ta t))), (0, .ref (ma 0)), (1, .int (nI t)), (2, .int (nI n))]) hx hb d_M_raw_6 rfl hl (by decide) rfl (fun ls hl => ?_)
  refine lv_aload_n hx hb d_M_raw_7 rfl (lv_at hl 1 rfl) ?_
  refine va_get (D := D) (ci := 3) (v := .ref (ma 4)) (C := R_M) (T := F_M) (N := 23) hx hb hts in_M hown hK hP 0 rfl rfl 6 (by decide) (hts _ wd_520) (fun _ h9 => h9) rfl d_M_raw_8 ?_
  refine lv_iload_n hx hb d_M_raw_11 rfl (lv_at hl 2 rfl) ?_
  refine n_iald hx hb hK hP 4 0 rfl rfl (i := t) (by omega) (by omega) d_M_raw_12 ?_
  rw [hbj]
  refine lv_istore (lv' := [(4, .int (nI j)), (3, .int (nI (ta t))), (0, .ref (ma 0)), (1, .int (nI t)), (2, .int (nI n))]) hx hb d_M_raw_13 hl (by decide) rfl (fun ls hl => ?_)
  refine lv_aload_n hx hb d_M_raw_15 rfl (lv_at hl 2 rfl) ?_
  refine va_get (D := D) (ci := 3) (v := .ref (ma 2)) (C := R_M) (T := F_M) (N := 23) hx hb hts in_M hown hK hP 0 rfl rfl 4 (by decide) (hts _ wd_518) (fun _ h9 => h9) rfl d_M_raw_16 ?_
  refine lv_iload_n hx hb d_M_raw_19 rfl (lv_at hl 3 rfl) ?_
  refine n_iald hx hb hK hP 2 0 rfl rfl (i := t) (by omega) (by omega) d_M_raw_20 ?_
  rw [hk]
  refine lv_tableIn (tgt := 101) (off := 80) hx hb d_M_raw_21 (by decide +kernel) (by decide +kernel) (by decide +kernel) (by decide) ?_
  refine lv_aload_n hx hb d_M_raw_101 rfl (lv_at hl 2 rfl) ?_
  refine va_get (D := D) (ci := 3) (v := .ref (ma 14)) (C := R_M) (T := F_M) (N := 23) hx hb hts in_M hown hK hP 0 rfl rfl 21 (by decide) (hts _ wd_535) (fun _ h9 => h9) rfl d_M_raw_102 ?_
  refine lv_iload_n hx hb d_M_raw_105 rfl (lv_at hl 1 rfl) ?_
  refine n_iald hx hb hK hP 14 0 rfl rfl (i := ta t) (by omega) (by omega) d_M_raw_106 ?_
  refine lv_aload_n hx hb d_M_raw_107 rfl (lv_at hl 2 rfl) ?_
  refine va_get (D := D) (ci := 3) (v := .ref (ma 14)) (C := R_M) (T := F_M) (N := 23) hx hb hts in_M hown hK hP 0 rfl rfl 21 (by decide) (hts _ wd_535) (fun _ h9 => h9) rfl d_M_raw_108 ?_
  refine lv_iload hx hb d_M_raw_111 (lv_at hl 0 rfl) ?_
  refine n_iald hx hb hK hP 14 0 rfl rfl (i := j) (by omega) (by omega) d_M_raw_113 ?_
  refine n_add hx hb d_M_raw_114 ?_
  exact fn_iret hx hb hr hlocks hAe hK hP hD hS rfl d_M_raw_115
set_option maxHeartbeats 4000000 in
set_option maxRecDepth 100000 in
theorem c_M_raw_3 (l : Launch) (D : va_G) (ma : Nat → Nat) (cI cZ : ClassId) (th nv nb nt nf na lv nm : Nat) (vw tk ta : Nat → Nat) (tb tc : Nat → Int32) (tw fk fa : Nat → Nat) (fb : Nat → Int32) (od sd aa am vl : Nat → Nat) (ho : Nat → Bool) (hok : Mok nv nb nt nf na lv nm vw tk ta tb tc tw fk fa fb od sd am vl) (t n : Nat) (hn : n < 1024) (ht : t < nt) (hk : tk t = 3) (ha : ta t < nt) (j : Nat) (hj : j < nt) (hbj : tb t = nI j)  (kc0 : Nat) : Fn l y_M_raw (wk y_M_raw b_M_raw 5 (some .int)) rm_M_raw D cls [(cI, .int), (cZ, .boolean)] [.ref (ma 0), .int (nI t), .int (nI n)] (mW ma cI cZ th nv nb nt nf na lv nm vw tk ta tb tc tw fk fa fb od sd aa am vl ho) XT (some (.int (rawI 3 (ta t) j kc0 (gvN nv vw n) vl ho tw))) (mW ma cI cZ th nv nb nt nf na lv nm vw tk ta tb tc tw fk fa fb od sd aa am vl ho) := by
  refine Fn.of (by decide) rfl (Nat.le_of_ble_eq_true rfl) ?_
  intro p e s m below meth c A ls hx hb hml hr hts0 hown hlocks hnm hP hK hD hS hA hAe hX hl
  have hts : ∀ w ∈ lw_ok, w.before _ s = true := fun w h => hts0 w (List.mem_cons_of_mem _ h)
  have hown : s.vm.findClass R_M = some m.cls := hown
  have hP : va_P D cls (mW ma cI cZ th nv nb nt nf na lv nm vw tk ta tb tc tw fk fa fb od sd aa am vl ho) s.heap := hP
  have hl : lv_has ls 5 [(0, .ref (ma 0)), (1, .int (nI t)), (2, .int (nI n))] := hl
  obtain ⟨o_nv, o_nb, o_nt, o_nf, o_na, o_lv, o_nm, o_vw, o_tw, o_am, o_sd, o_T, o_F, o_od, o_vl⟩ := id hok
  have va := o_vl (ta t)
  have vb := o_vl j
  refine lv_aload_n hx hb d_M_raw_0 rfl (lv_at hl 0 rfl) ?_
  refine va_get (D := D) (ci := 3) (v := .ref (ma 3)) (C := R_M) (T := F_M) (N := 23) hx hb hts in_M hown hK hP 0 rfl rfl 5 (by decide) (hts _ wd_519) (fun _ h9 => h9) rfl d_M_raw_1 ?_
  refine lv_iload_n hx hb d_M_raw_4 rfl (lv_at hl 1 rfl) ?_
  refine n_iald hx hb hK hP 3 0 rfl rfl (i := t) (by omega) (by omega) d_M_raw_5 ?_
  refine lv_istore_n (lv' := [(3, .int (nI (ta t))), (0, .ref (ma 0)), (1, .int (nI t)), (2, .int (nI n))]) hx hb d_M_raw_6 rfl hl (by decide) rfl (fun ls hl => ?_)
  refine lv_aload_n hx hb d_M_raw_7 rfl (lv_at hl 1 rfl) ?_
  refine va_get (D := D) (ci := 3) (v := .ref (ma 4)) (C := R_M) (T := F_M) (N := 23) hx hb hts in_M hown hK hP 0 rfl rfl 6 (by decide) (hts _ wd_520) (fun _ h9 => h9) rfl d_M_raw_8 ?_
  refine lv_iload_n hx hb d_M_raw_11 rfl (lv_at hl 2 rfl) ?_
  refine n_iald hx hb hK hP 4 0 rfl rfl (i := t) (by omega) (by omega) d_M_raw_12 ?_
  rw [hbj]
  refine lv_istore (lv' := [(4, .int (nI j)), (3, .int (nI (ta t))), (0, .ref (ma 0)), (1, .int (nI t)), (2, .int (nI n))]) hx hb d_M_raw_13 hl (by decide) rfl (fun ls hl => ?_)
  refine lv_aload_n hx hb d_M_raw_15 rfl (lv_at hl 2 rfl) ?_
  refine va_get (D := D) (ci := 3) (v := .ref (ma 2)) (C := R_M) (T := F_M) (N := 23) hx hb hts in_M hown hK hP 0 rfl rfl 4 (by decide) (hts _ wd_518) (fun _ h9 => h9) rfl d_M_raw_16 ?_
  refine lv_iload_n hx hb d_M_raw_19 rfl (lv_at hl 3 rfl) ?_
  refine n_iald hx hb hK hP 2 0 rfl rfl (i := t) (by omega) (by omega) d_M_raw_20 ?_
  rw [hk]
  refine lv_tableIn (tgt := 116) (off := 95) hx hb d_M_raw_21 (by decide +kernel) (by decide +kernel) (by decide +kernel) (by decide) ?_
  refine lv_aload_n hx hb d_M_raw_116 rfl (lv_at hl 2 rfl) ?_
  refine va_get (D := D) (ci := 3) (v := .ref (ma 14)) (C := R_M) (T := F_M) (N := 23) hx hb hts in_M hown hK hP 0 rfl rfl 21 (by decide) (hts _ wd_535) (fun _ h9 => h9) rfl d_M_raw_117 ?_
  refine lv_iload_n hx hb d_M_raw_120 rfl (lv_at hl 1 rfl) ?_
  refine n_iald hx hb hK hP 14 0 rfl rfl (i := ta t) (by omega) (by omega) d_M_raw_121 ?_
  refine lv_aload_n hx hb d_M_raw_122 rfl (lv_at hl 2 rfl) ?_
  refine va_get (D := D) (ci := 3) (v := .ref (ma 14)) (C := R_M) (T := F_M) (N := 23) hx hb hts in_M hown hK hP 0 rfl rfl 21 (by decide) (hts _ wd_535) (fun _ h9 => h9) rfl d_M_raw_123 ?_
  refine lv_iload hx hb d_M_raw_126 (lv_at hl 0 rfl) ?_
  refine n_iald hx hb hK hP 14 0 rfl rfl (i := j) (by omega) (by omega) d_M_raw_128 ?_
  refine lv_isub hx hb d_M_raw_129 ?_
  exact fn_iret hx hb hr hlocks hAe hK hP hD hS rfl d_M_raw_130
set_option maxHeartbeats 4000000 in
set_option maxRecDepth 100000 in
theorem c_M_raw_4 (l : Launch) (D : va_G) (ma : Nat → Nat) (cI cZ : ClassId) (th nv nb nt nf na lv nm : Nat) (vw tk ta : Nat → Nat) (tb tc : Nat → Int32) (tw fk fa : Nat → Nat) (fb : Nat → Int32) (od sd aa am vl : Nat → Nat) (ho : Nat → Bool) (hok : Mok nv nb nt nf na lv nm vw tk ta tb tc tw fk fa fb od sd am vl) (t n : Nat) (hn : n < 1024) (ht : t < nt) (hk : tk t = 4) (ha : ta t < nt) (j : Nat) (hj : j < nt) (hbj : tb t = nI j)  (kc0 : Nat) : Fn l y_M_raw (wk y_M_raw b_M_raw 5 (some .int)) rm_M_raw D cls [(cI, .int), (cZ, .boolean)] [.ref (ma 0), .int (nI t), .int (nI n)] (mW ma cI cZ th nv nb nt nf na lv nm vw tk ta tb tc tw fk fa fb od sd aa am vl ho) XT (some (.int (rawI 4 (ta t) j kc0 (gvN nv vw n) vl ho tw))) (mW ma cI cZ th nv nb nt nf na lv nm vw tk ta tb tc tw fk fa fb od sd aa am vl ho) := by
  refine Fn.of (by decide) rfl (Nat.le_of_ble_eq_true rfl) ?_
  intro p e s m below meth c A ls hx hb hml hr hts0 hown hlocks hnm hP hK hD hS hA hAe hX hl
  have hts : ∀ w ∈ lw_ok, w.before _ s = true := fun w h => hts0 w (List.mem_cons_of_mem _ h)
  have hown : s.vm.findClass R_M = some m.cls := hown
  have hP : va_P D cls (mW ma cI cZ th nv nb nt nf na lv nm vw tk ta tb tc tw fk fa fb od sd aa am vl ho) s.heap := hP
  have hl : lv_has ls 5 [(0, .ref (ma 0)), (1, .int (nI t)), (2, .int (nI n))] := hl
  obtain ⟨o_nv, o_nb, o_nt, o_nf, o_na, o_lv, o_nm, o_vw, o_tw, o_am, o_sd, o_T, o_F, o_od, o_vl⟩ := id hok
  have va := o_vl (ta t)
  have vb := o_vl j
  refine lv_aload_n hx hb d_M_raw_0 rfl (lv_at hl 0 rfl) ?_
  refine va_get (D := D) (ci := 3) (v := .ref (ma 3)) (C := R_M) (T := F_M) (N := 23) hx hb hts in_M hown hK hP 0 rfl rfl 5 (by decide) (hts _ wd_519) (fun _ h9 => h9) rfl d_M_raw_1 ?_
  refine lv_iload_n hx hb d_M_raw_4 rfl (lv_at hl 1 rfl) ?_
  refine n_iald hx hb hK hP 3 0 rfl rfl (i := t) (by omega) (by omega) d_M_raw_5 ?_
  refine lv_istore_n (lv' := [(3, .int (nI (ta t))), (0, .ref (ma 0)), (1, .int (nI t)), (2, .int (nI n))]) hx hb d_M_raw_6 rfl hl (by decide) rfl (fun ls hl => ?_)
  refine lv_aload_n hx hb d_M_raw_7 rfl (lv_at hl 1 rfl) ?_
  refine va_get (D := D) (ci := 3) (v := .ref (ma 4)) (C := R_M) (T := F_M) (N := 23) hx hb hts in_M hown hK hP 0 rfl rfl 6 (by decide) (hts _ wd_520) (fun _ h9 => h9) rfl d_M_raw_8 ?_
  refine lv_iload_n hx hb d_M_raw_11 rfl (lv_at hl 2 rfl) ?_
  refine n_iald hx hb hK hP 4 0 rfl rfl (i := t) (by omega) (by omega) d_M_raw_12 ?_
  rw [hbj]
  refine lv_istore (lv' := [(4, .int (nI j)), (3, .int (nI (ta t))), (0, .ref (ma 0)), (1, .int (nI t)), (2, .int (nI n))]) hx hb d_M_raw_13 hl (by decide) rfl (fun ls hl => ?_)
  refine lv_aload_n hx hb d_M_raw_15 rfl (lv_at hl 2 rfl) ?_
  refine va_get (D := D) (ci := 3) (v := .ref (ma 2)) (C := R_M) (T := F_M) (N := 23) hx hb hts in_M hown hK hP 0 rfl rfl 4 (by decide) (hts _ wd_518) (fun _ h9 => h9) rfl d_M_raw_16 ?_
  refine lv_iload_n hx hb d_M_raw_19 rfl (lv_at hl 3 rfl) ?_
  refine n_iald hx hb hK hP 2 0 rfl rfl (i := t) (by omega) (by omega) d_M_raw_20 ?_
  rw [hk]
  refine lv_tableIn (tgt := 131) (off := 110) hx hb d_M_raw_21 (by decide +kernel) (by decide +kernel) (by decide +kernel) (by decide) ?_
  refine lv_aload_n hx hb d_M_raw_131 rfl (lv_at hl 2 rfl) ?_
  refine va_get (D := D) (ci := 3) (v := .ref (ma 14)) (C := R_M) (T := F_M) (N := 23) hx hb hts in_M hown hK hP 0 rfl rfl 21 (by decide) (hts _ wd_535) (fun _ h9 => h9) rfl d_M_raw_132 ?_
  refine lv_iload_n hx hb d_M_raw_135 rfl (lv_at hl 1 rfl) ?_
  refine n_iald hx hb hK hP 14 0 rfl rfl (i := ta t) (by omega) (by omega) d_M_raw_136 ?_
  refine lv_aload_n hx hb d_M_raw_137 rfl (lv_at hl 2 rfl) ?_
  refine va_get (D := D) (ci := 3) (v := .ref (ma 14)) (C := R_M) (T := F_M) (N := 23) hx hb hts in_M hown hK hP 0 rfl rfl 21 (by decide) (hts _ wd_535) (fun _ h9 => h9) rfl d_M_raw_138 ?_
  refine lv_iload hx hb d_M_raw_141 (lv_at hl 0 rfl) ?_
  refine n_iald hx hb hK hP 14 0 rfl rfl (i := j) (by omega) (by omega) d_M_raw_143 ?_
  refine n_mul hx hb d_M_raw_144 ?_
  exact fn_iret hx hb hr hlocks hAe hK hP hD hS rfl d_M_raw_145
set_option maxHeartbeats 4000000 in
set_option maxRecDepth 100000 in
theorem c_M_raw_5 (l : Launch) (D : va_G) (ma : Nat → Nat) (cI cZ : ClassId) (th nv nb nt nf na lv nm : Nat) (vw tk ta : Nat → Nat) (tb tc : Nat → Int32) (tw fk fa : Nat → Nat) (fb : Nat → Int32) (od sd aa am vl : Nat → Nat) (ho : Nat → Bool) (hok : Mok nv nb nt nf na lv nm vw tk ta tb tc tw fk fa fb od sd am vl) (t n : Nat) (hn : n < 1024) (ht : t < nt) (hk : tk t = 5) (ha : ta t < nt) (j : Nat) (hj : j < nt) (hbj : tb t = nI j)  (kc0 : Nat) : Fn l y_M_raw (wk y_M_raw b_M_raw 5 (some .int)) rm_M_raw D cls [(cI, .int), (cZ, .boolean)] [.ref (ma 0), .int (nI t), .int (nI n)] (mW ma cI cZ th nv nb nt nf na lv nm vw tk ta tb tc tw fk fa fb od sd aa am vl ho) XT (some (.int (rawI 5 (ta t) j kc0 (gvN nv vw n) vl ho tw))) (mW ma cI cZ th nv nb nt nf na lv nm vw tk ta tb tc tw fk fa fb od sd aa am vl ho) := by
  refine Fn.of (by decide) rfl (Nat.le_of_ble_eq_true rfl) ?_
  intro p e s m below meth c A ls hx hb hml hr hts0 hown hlocks hnm hP hK hD hS hA hAe hX hl
  have hts : ∀ w ∈ lw_ok, w.before _ s = true := fun w h => hts0 w (List.mem_cons_of_mem _ h)
  have hown : s.vm.findClass R_M = some m.cls := hown
  have hP : va_P D cls (mW ma cI cZ th nv nb nt nf na lv nm vw tk ta tb tc tw fk fa fb od sd aa am vl ho) s.heap := hP
  have hl : lv_has ls 5 [(0, .ref (ma 0)), (1, .int (nI t)), (2, .int (nI n))] := hl
  obtain ⟨o_nv, o_nb, o_nt, o_nf, o_na, o_lv, o_nm, o_vw, o_tw, o_am, o_sd, o_T, o_F, o_od, o_vl⟩ := id hok
  have va := o_vl (ta t)
  have vb := o_vl j
  refine lv_aload_n hx hb d_M_raw_0 rfl (lv_at hl 0 rfl) ?_
  refine va_get (D := D) (ci := 3) (v := .ref (ma 3)) (C := R_M) (T := F_M) (N := 23) hx hb hts in_M hown hK hP 0 rfl rfl 5 (by decide) (hts _ wd_519) (fun _ h9 => h9) rfl d_M_raw_1 ?_
  refine lv_iload_n hx hb d_M_raw_4 rfl (lv_at hl 1 rfl) ?_
  refine n_iald hx hb hK hP 3 0 rfl rfl (i := t) (by omega) (by omega) d_M_raw_5 ?_
  refine lv_istore_n (lv' := [(3, .int (nI (ta t))), (0, .ref (ma 0)), (1, .int (nI t)), (2, .int (nI n))]) hx hb d_M_raw_6 rfl hl (by decide) rfl (fun ls hl => ?_)
  refine lv_aload_n hx hb d_M_raw_7 rfl (lv_at hl 1 rfl) ?_
  refine va_get (D := D) (ci := 3) (v := .ref (ma 4)) (C := R_M) (T := F_M) (N := 23) hx hb hts in_M hown hK hP 0 rfl rfl 6 (by decide) (hts _ wd_520) (fun _ h9 => h9) rfl d_M_raw_8 ?_
  refine lv_iload_n hx hb d_M_raw_11 rfl (lv_at hl 2 rfl) ?_
  refine n_iald hx hb hK hP 4 0 rfl rfl (i := t) (by omega) (by omega) d_M_raw_12 ?_
  rw [hbj]
  refine lv_istore (lv' := [(4, .int (nI j)), (3, .int (nI (ta t))), (0, .ref (ma 0)), (1, .int (nI t)), (2, .int (nI n))]) hx hb d_M_raw_13 hl (by decide) rfl (fun ls hl => ?_)
  refine lv_aload_n hx hb d_M_raw_15 rfl (lv_at hl 2 rfl) ?_
  refine va_get (D := D) (ci := 3) (v := .ref (ma 2)) (C := R_M) (T := F_M) (N := 23) hx hb hts in_M hown hK hP 0 rfl rfl 4 (by decide) (hts _ wd_518) (fun _ h9 => h9) rfl d_M_raw_16 ?_
  refine lv_iload_n hx hb d_M_raw_19 rfl (lv_at hl 3 rfl) ?_
  refine n_iald hx hb hK hP 2 0 rfl rfl (i := t) (by omega) (by omega) d_M_raw_20 ?_
  rw [hk]
  refine lv_tableIn (tgt := 146) (off := 125) hx hb d_M_raw_21 (by decide +kernel) (by decide +kernel) (by decide +kernel) (by decide) ?_
  refine lv_aload_n hx hb d_M_raw_146 rfl (lv_at hl 2 rfl) ?_
  refine va_get (D := D) (ci := 3) (v := .ref (ma 14)) (C := R_M) (T := F_M) (N := 23) hx hb hts in_M hown hK hP 0 rfl rfl 21 (by decide) (hts _ wd_535) (fun _ h9 => h9) rfl d_M_raw_147 ?_
  refine lv_iload_n hx hb d_M_raw_150 rfl (lv_at hl 1 rfl) ?_
  refine n_iald hx hb hK hP 14 0 rfl rfl (i := ta t) (by omega) (by omega) d_M_raw_151 ?_
  refine lv_aload_n hx hb d_M_raw_152 rfl (lv_at hl 2 rfl) ?_
  refine va_get (D := D) (ci := 3) (v := .ref (ma 14)) (C := R_M) (T := F_M) (N := 23) hx hb hts in_M hown hK hP 0 rfl rfl 21 (by decide) (hts _ wd_535) (fun _ h9 => h9) rfl d_M_raw_153 ?_
  refine lv_iload hx hb d_M_raw_156 (lv_at hl 0 rfl) ?_
  refine n_iald hx hb hK hP 14 0 rfl rfl (i := j) (by omega) (by omega) d_M_raw_158 ?_
  refine n_and hx hb d_M_raw_159 ?_
  exact fn_iret hx hb hr hlocks hAe hK hP hD hS rfl d_M_raw_160
set_option maxHeartbeats 4000000 in
set_option maxRecDepth 100000 in
theorem c_M_raw_6 (l : Launch) (D : va_G) (ma : Nat → Nat) (cI cZ : ClassId) (th nv nb nt nf na lv nm : Nat) (vw tk ta : Nat → Nat) (tb tc : Nat → Int32) (tw fk fa : Nat → Nat) (fb : Nat → Int32) (od sd aa am vl : Nat → Nat) (ho : Nat → Bool) (hok : Mok nv nb nt nf na lv nm vw tk ta tb tc tw fk fa fb od sd am vl) (t n : Nat) (hn : n < 1024) (ht : t < nt) (hk : tk t = 6) (ha : ta t < nt) (j : Nat) (hj : j < nt) (hbj : tb t = nI j)  (kc0 : Nat) : Fn l y_M_raw (wk y_M_raw b_M_raw 5 (some .int)) rm_M_raw D cls [(cI, .int), (cZ, .boolean)] [.ref (ma 0), .int (nI t), .int (nI n)] (mW ma cI cZ th nv nb nt nf na lv nm vw tk ta tb tc tw fk fa fb od sd aa am vl ho) XT (some (.int (rawI 6 (ta t) j kc0 (gvN nv vw n) vl ho tw))) (mW ma cI cZ th nv nb nt nf na lv nm vw tk ta tb tc tw fk fa fb od sd aa am vl ho) := by
  refine Fn.of (by decide) rfl (Nat.le_of_ble_eq_true rfl) ?_
  intro p e s m below meth c A ls hx hb hml hr hts0 hown hlocks hnm hP hK hD hS hA hAe hX hl
  have hts : ∀ w ∈ lw_ok, w.before _ s = true := fun w h => hts0 w (List.mem_cons_of_mem _ h)
  have hown : s.vm.findClass R_M = some m.cls := hown
  have hP : va_P D cls (mW ma cI cZ th nv nb nt nf na lv nm vw tk ta tb tc tw fk fa fb od sd aa am vl ho) s.heap := hP
  have hl : lv_has ls 5 [(0, .ref (ma 0)), (1, .int (nI t)), (2, .int (nI n))] := hl
  obtain ⟨o_nv, o_nb, o_nt, o_nf, o_na, o_lv, o_nm, o_vw, o_tw, o_am, o_sd, o_T, o_F, o_od, o_vl⟩ := id hok
  have va := o_vl (ta t)
  have vb := o_vl j
  refine lv_aload_n hx hb d_M_raw_0 rfl (lv_at hl 0 rfl) ?_
  refine va_get (D := D) (ci := 3) (v := .ref (ma 3)) (C := R_M) (T := F_M) (N := 23) hx hb hts in_M hown hK hP 0 rfl rfl 5 (by decide) (hts _ wd_519) (fun _ h9 => h9) rfl d_M_raw_1 ?_
  refine lv_iload_n hx hb d_M_raw_4 rfl (lv_at hl 1 rfl) ?_
  refine n_iald hx hb hK hP 3 0 rfl rfl (i := t) (by omega) (by omega) d_M_raw_5 ?_
  refine lv_istore_n (lv' := [(3, .int (nI (ta t))), (0, .ref (ma 0)), (1, .int (nI t)), (2, .int (nI n))]) hx hb d_M_raw_6 rfl hl (by decide) rfl (fun ls hl => ?_)
  refine lv_aload_n hx hb d_M_raw_7 rfl (lv_at hl 1 rfl) ?_
  refine va_get (D := D) (ci := 3) (v := .ref (ma 4)) (C := R_M) (T := F_M) (N := 23) hx hb hts in_M hown hK hP 0 rfl rfl 6 (by decide) (hts _ wd_520) (fun _ h9 => h9) rfl d_M_raw_8 ?_
  refine lv_iload_n hx hb d_M_raw_11 rfl (lv_at hl 2 rfl) ?_
  refine n_iald hx hb hK hP 4 0 rfl rfl (i := t) (by omega) (by omega) d_M_raw_12 ?_
  rw [hbj]
  refine lv_istore (lv' := [(4, .int (nI j)), (3, .int (nI (ta t))), (0, .ref (ma 0)), (1, .int (nI t)), (2, .int (nI n))]) hx hb d_M_raw_13 hl (by decide) rfl (fun ls hl => ?_)
  refine lv_aload_n hx hb d_M_raw_15 rfl (lv_at hl 2 rfl) ?_
  refine va_get (D := D) (ci := 3) (v := .ref (ma 2)) (C := R_M) (T := F_M) (N := 23) hx hb hts in_M hown hK hP 0 rfl rfl 4 (by decide) (hts _ wd_518) (fun _ h9 => h9) rfl d_M_raw_16 ?_
  refine lv_iload_n hx hb d_M_raw_19 rfl (lv_at hl 3 rfl) ?_
  refine n_iald hx hb hK hP 2 0 rfl rfl (i := t) (by omega) (by omega) d_M_raw_20 ?_
  rw [hk]
  refine lv_tableIn (tgt := 161) (off := 140) hx hb d_M_raw_21 (by decide +kernel) (by decide +kernel) (by decide +kernel) (by decide) ?_
  refine lv_aload_n hx hb d_M_raw_161 rfl (lv_at hl 2 rfl) ?_
  refine va_get (D := D) (ci := 3) (v := .ref (ma 14)) (C := R_M) (T := F_M) (N := 23) hx hb hts in_M hown hK hP 0 rfl rfl 21 (by decide) (hts _ wd_535) (fun _ h9 => h9) rfl d_M_raw_162 ?_
  refine lv_iload_n hx hb d_M_raw_165 rfl (lv_at hl 1 rfl) ?_
  refine n_iald hx hb hK hP 14 0 rfl rfl (i := ta t) (by omega) (by omega) d_M_raw_166 ?_
  refine lv_aload_n hx hb d_M_raw_167 rfl (lv_at hl 2 rfl) ?_
  refine va_get (D := D) (ci := 3) (v := .ref (ma 14)) (C := R_M) (T := F_M) (N := 23) hx hb hts in_M hown hK hP 0 rfl rfl 21 (by decide) (hts _ wd_535) (fun _ h9 => h9) rfl d_M_raw_168 ?_
  refine lv_iload hx hb d_M_raw_171 (lv_at hl 0 rfl) ?_
  refine n_iald hx hb hK hP 14 0 rfl rfl (i := j) (by omega) (by omega) d_M_raw_173 ?_
  refine n_or hx hb d_M_raw_174 ?_
  exact fn_iret hx hb hr hlocks hAe hK hP hD hS rfl d_M_raw_175
set_option maxHeartbeats 4000000 in
set_option maxRecDepth 100000 in
theorem c_M_raw_7 (l : Launch) (D : va_G) (ma : Nat → Nat) (cI cZ : ClassId) (th nv nb nt nf na lv nm : Nat) (vw tk ta : Nat → Nat) (tb tc : Nat → Int32) (tw fk fa : Nat → Nat) (fb : Nat → Int32) (od sd aa am vl : Nat → Nat) (ho : Nat → Bool) (hok : Mok nv nb nt nf na lv nm vw tk ta tb tc tw fk fa fb od sd am vl) (t n : Nat) (hn : n < 1024) (ht : t < nt) (hk : tk t = 7) (ha : ta t < nt) (j : Nat) (hj : j < nt) (hbj : tb t = nI j)  (kc0 : Nat) : Fn l y_M_raw (wk y_M_raw b_M_raw 5 (some .int)) rm_M_raw D cls [(cI, .int), (cZ, .boolean)] [.ref (ma 0), .int (nI t), .int (nI n)] (mW ma cI cZ th nv nb nt nf na lv nm vw tk ta tb tc tw fk fa fb od sd aa am vl ho) XT (some (.int (rawI 7 (ta t) j kc0 (gvN nv vw n) vl ho tw))) (mW ma cI cZ th nv nb nt nf na lv nm vw tk ta tb tc tw fk fa fb od sd aa am vl ho) := by
  refine Fn.of (by decide) rfl (Nat.le_of_ble_eq_true rfl) ?_
  intro p e s m below meth c A ls hx hb hml hr hts0 hown hlocks hnm hP hK hD hS hA hAe hX hl
  have hts : ∀ w ∈ lw_ok, w.before _ s = true := fun w h => hts0 w (List.mem_cons_of_mem _ h)
  have hown : s.vm.findClass R_M = some m.cls := hown
  have hP : va_P D cls (mW ma cI cZ th nv nb nt nf na lv nm vw tk ta tb tc tw fk fa fb od sd aa am vl ho) s.heap := hP
  have hl : lv_has ls 5 [(0, .ref (ma 0)), (1, .int (nI t)), (2, .int (nI n))] := hl
  obtain ⟨o_nv, o_nb, o_nt, o_nf, o_na, o_lv, o_nm, o_vw, o_tw, o_am, o_sd, o_T, o_F, o_od, o_vl⟩ := id hok
  have va := o_vl (ta t)
  have vb := o_vl j
  refine lv_aload_n hx hb d_M_raw_0 rfl (lv_at hl 0 rfl) ?_
  refine va_get (D := D) (ci := 3) (v := .ref (ma 3)) (C := R_M) (T := F_M) (N := 23) hx hb hts in_M hown hK hP 0 rfl rfl 5 (by decide) (hts _ wd_519) (fun _ h9 => h9) rfl d_M_raw_1 ?_
  refine lv_iload_n hx hb d_M_raw_4 rfl (lv_at hl 1 rfl) ?_
  refine n_iald hx hb hK hP 3 0 rfl rfl (i := t) (by omega) (by omega) d_M_raw_5 ?_
  refine lv_istore_n (lv' := [(3, .int (nI (ta t))), (0, .ref (ma 0)), (1, .int (nI t)), (2, .int (nI n))]) hx hb d_M_raw_6 rfl hl (by decide) rfl (fun ls hl => ?_)
  refine lv_aload_n hx hb d_M_raw_7 rfl (lv_at hl 1 rfl) ?_
  refine va_get (D := D) (ci := 3) (v := .ref (ma 4)) (C := R_M) (T := F_M) (N := 23) hx hb hts in_M hown hK hP 0 rfl rfl 6 (by decide) (hts _ wd_520) (fun _ h9 => h9) rfl d_M_raw_8 ?_
  refine lv_iload_n hx hb d_M_raw_11 rfl (lv_at hl 2 rfl) ?_
  refine n_iald hx hb hK hP 4 0 rfl rfl (i := t) (by omega) (by omega) d_M_raw_12 ?_
  rw [hbj]
  refine lv_istore (lv' := [(4, .int (nI j)), (3, .int (nI (ta t))), (0, .ref (ma 0)), (1, .int (nI t)), (2, .int (nI n))]) hx hb d_M_raw_13 hl (by decide) rfl (fun ls hl => ?_)
  refine lv_aload_n hx hb d_M_raw_15 rfl (lv_at hl 2 rfl) ?_
  refine va_get (D := D) (ci := 3) (v := .ref (ma 2)) (C := R_M) (T := F_M) (N := 23) hx hb hts in_M hown hK hP 0 rfl rfl 4 (by decide) (hts _ wd_518) (fun _ h9 => h9) rfl d_M_raw_16 ?_
  refine lv_iload_n hx hb d_M_raw_19 rfl (lv_at hl 3 rfl) ?_
  refine n_iald hx hb hK hP 2 0 rfl rfl (i := t) (by omega) (by omega) d_M_raw_20 ?_
  rw [hk]
  refine lv_tableIn (tgt := 176) (off := 155) hx hb d_M_raw_21 (by decide +kernel) (by decide +kernel) (by decide +kernel) (by decide) ?_
  refine lv_aload_n hx hb d_M_raw_176 rfl (lv_at hl 2 rfl) ?_
  refine va_get (D := D) (ci := 3) (v := .ref (ma 14)) (C := R_M) (T := F_M) (N := 23) hx hb hts in_M hown hK hP 0 rfl rfl 21 (by decide) (hts _ wd_535) (fun _ h9 => h9) rfl d_M_raw_177 ?_
  refine lv_iload_n hx hb d_M_raw_180 rfl (lv_at hl 1 rfl) ?_
  refine n_iald hx hb hK hP 14 0 rfl rfl (i := ta t) (by omega) (by omega) d_M_raw_181 ?_
  refine lv_aload_n hx hb d_M_raw_182 rfl (lv_at hl 2 rfl) ?_
  refine va_get (D := D) (ci := 3) (v := .ref (ma 14)) (C := R_M) (T := F_M) (N := 23) hx hb hts in_M hown hK hP 0 rfl rfl 21 (by decide) (hts _ wd_535) (fun _ h9 => h9) rfl d_M_raw_183 ?_
  refine lv_iload hx hb d_M_raw_186 (lv_at hl 0 rfl) ?_
  refine n_iald hx hb hK hP 14 0 rfl rfl (i := j) (by omega) (by omega) d_M_raw_188 ?_
  refine lv_ixor hx hb d_M_raw_189 ?_
  exact fn_iret hx hb hr hlocks hAe hK hP hD hS rfl d_M_raw_190
set_option maxHeartbeats 4000000 in
set_option maxRecDepth 100000 in
theorem c_M_raw_8 (l : Launch) (D : va_G) (ma : Nat → Nat) (cI cZ : ClassId) (th nv nb nt nf na lv nm : Nat) (vw tk ta : Nat → Nat) (tb tc : Nat → Int32) (tw fk fa : Nat → Nat) (fb : Nat → Int32) (od sd aa am vl : Nat → Nat) (ho : Nat → Bool) (hok : Mok nv nb nt nf na lv nm vw tk ta tb tc tw fk fa fb od sd am vl) (t n : Nat) (hn : n < 1024) (ht : t < nt) (hk : tk t = 8) (ha : ta t < nt) (kb0 : Nat) (kc0 : Nat) : Fn l y_M_raw (wk y_M_raw b_M_raw 5 (some .int)) rm_M_raw D cls [(cI, .int), (cZ, .boolean)] [.ref (ma 0), .int (nI t), .int (nI n)] (mW ma cI cZ th nv nb nt nf na lv nm vw tk ta tb tc tw fk fa fb od sd aa am vl ho) XT (some (.int (rawI 8 (ta t) kb0 kc0 (gvN nv vw n) vl ho tw))) (mW ma cI cZ th nv nb nt nf na lv nm vw tk ta tb tc tw fk fa fb od sd aa am vl ho) := by
  refine Fn.of (by decide) rfl (Nat.le_of_ble_eq_true rfl) ?_
  intro p e s m below meth c A ls hx hb hml hr hts0 hown hlocks hnm hP hK hD hS hA hAe hX hl
  have hts : ∀ w ∈ lw_ok, w.before _ s = true := fun w h => hts0 w (List.mem_cons_of_mem _ h)
  have hown : s.vm.findClass R_M = some m.cls := hown
  have hP : va_P D cls (mW ma cI cZ th nv nb nt nf na lv nm vw tk ta tb tc tw fk fa fb od sd aa am vl ho) s.heap := hP
  have hl : lv_has ls 5 [(0, .ref (ma 0)), (1, .int (nI t)), (2, .int (nI n))] := hl
  obtain ⟨o_nv, o_nb, o_nt, o_nf, o_na, o_lv, o_nm, o_vw, o_tw, o_am, o_sd, o_T, o_F, o_od, o_vl⟩ := id hok
  have va := o_vl (ta t)
  refine lv_aload_n hx hb d_M_raw_0 rfl (lv_at hl 0 rfl) ?_
  refine va_get (D := D) (ci := 3) (v := .ref (ma 3)) (C := R_M) (T := F_M) (N := 23) hx hb hts in_M hown hK hP 0 rfl rfl 5 (by decide) (hts _ wd_519) (fun _ h9 => h9) rfl d_M_raw_1 ?_
  refine lv_iload_n hx hb d_M_raw_4 rfl (lv_at hl 1 rfl) ?_
  refine n_iald hx hb hK hP 3 0 rfl rfl (i := t) (by omega) (by omega) d_M_raw_5 ?_
  refine lv_istore_n (lv' := [(3, .int (nI (ta t))), (0, .ref (ma 0)), (1, .int (nI t)), (2, .int (nI n))]) hx hb d_M_raw_6 rfl hl (by decide) rfl (fun ls hl => ?_)
  refine lv_aload_n hx hb d_M_raw_7 rfl (lv_at hl 1 rfl) ?_
  refine va_get (D := D) (ci := 3) (v := .ref (ma 4)) (C := R_M) (T := F_M) (N := 23) hx hb hts in_M hown hK hP 0 rfl rfl 6 (by decide) (hts _ wd_520) (fun _ h9 => h9) rfl d_M_raw_8 ?_
  refine lv_iload_n hx hb d_M_raw_11 rfl (lv_at hl 2 rfl) ?_
  refine n_iald hx hb hK hP 4 0 rfl rfl (i := t) (by omega) (by omega) d_M_raw_12 ?_
  refine lv_istore (lv' := [(4, .int (tb t)), (3, .int (nI (ta t))), (0, .ref (ma 0)), (1, .int (nI t)), (2, .int (nI n))]) hx hb d_M_raw_13 hl (by decide) rfl (fun ls hl => ?_)
  refine lv_aload_n hx hb d_M_raw_15 rfl (lv_at hl 2 rfl) ?_
  refine va_get (D := D) (ci := 3) (v := .ref (ma 2)) (C := R_M) (T := F_M) (N := 23) hx hb hts in_M hown hK hP 0 rfl rfl 4 (by decide) (hts _ wd_518) (fun _ h9 => h9) rfl d_M_raw_16 ?_
  refine lv_iload_n hx hb d_M_raw_19 rfl (lv_at hl 3 rfl) ?_
  refine n_iald hx hb hK hP 2 0 rfl rfl (i := t) (by omega) (by omega) d_M_raw_20 ?_
  rw [hk]
  refine lv_tableIn (tgt := 191) (off := 170) hx hb d_M_raw_21 (by decide +kernel) (by decide +kernel) (by decide +kernel) (by decide) ?_
  refine lv_iconst (v := -1) hx hb d_M_raw_191 (by decide) ?_
  refine lv_aload_n hx hb d_M_raw_192 rfl (lv_at hl 2 rfl) ?_
  refine va_get (D := D) (ci := 3) (v := .ref (ma 14)) (C := R_M) (T := F_M) (N := 23) hx hb hts in_M hown hK hP 0 rfl rfl 21 (by decide) (hts _ wd_535) (fun _ h9 => h9) rfl d_M_raw_193 ?_
  refine lv_iload_n hx hb d_M_raw_196 rfl (lv_at hl 1 rfl) ?_
  refine n_iald hx hb hK hP 14 0 rfl rfl (i := ta t) (by omega) (by omega) d_M_raw_197 ?_
  refine lv_isub hx hb d_M_raw_198 ?_
  exact fn_iret hx hb hr hlocks hAe hK hP hD hS rfl d_M_raw_199
set_option maxHeartbeats 4000000 in
set_option maxRecDepth 100000 in
theorem c_M_raw_9 (l : Launch) (D : va_G) (ma : Nat → Nat) (cI cZ : ClassId) (th nv nb nt nf na lv nm : Nat) (vw tk ta : Nat → Nat) (tb tc : Nat → Int32) (tw fk fa : Nat → Nat) (fb : Nat → Int32) (od sd aa am vl : Nat → Nat) (ho : Nat → Bool) (hok : Mok nv nb nt nf na lv nm vw tk ta tb tc tw fk fa fb od sd am vl) (t n : Nat) (hn : n < 1024) (ht : t < nt) (hk : tk t = 9) (ha : ta t < nt) (j : Nat) (hj : j ≤ 4) (hbj : tb t = nI j)  (kc0 : Nat) : Fn l y_M_raw (wk y_M_raw b_M_raw 5 (some .int)) rm_M_raw D cls [(cI, .int), (cZ, .boolean)] [.ref (ma 0), .int (nI t), .int (nI n)] (mW ma cI cZ th nv nb nt nf na lv nm vw tk ta tb tc tw fk fa fb od sd aa am vl ho) XT (some (.int (rawI 9 (ta t) j kc0 (gvN nv vw n) vl ho tw))) (mW ma cI cZ th nv nb nt nf na lv nm vw tk ta tb tc tw fk fa fb od sd aa am vl ho) := by
  refine Fn.of (by decide) rfl (Nat.le_of_ble_eq_true rfl) ?_
  intro p e s m below meth c A ls hx hb hml hr hts0 hown hlocks hnm hP hK hD hS hA hAe hX hl
  have hts : ∀ w ∈ lw_ok, w.before _ s = true := fun w h => hts0 w (List.mem_cons_of_mem _ h)
  have hown : s.vm.findClass R_M = some m.cls := hown
  have hP : va_P D cls (mW ma cI cZ th nv nb nt nf na lv nm vw tk ta tb tc tw fk fa fb od sd aa am vl ho) s.heap := hP
  have hl : lv_has ls 5 [(0, .ref (ma 0)), (1, .int (nI t)), (2, .int (nI n))] := hl
  obtain ⟨o_nv, o_nb, o_nt, o_nf, o_na, o_lv, o_nm, o_vw, o_tw, o_am, o_sd, o_T, o_F, o_od, o_vl⟩ := id hok
  have va := o_vl (ta t)
  refine lv_aload_n hx hb d_M_raw_0 rfl (lv_at hl 0 rfl) ?_
  refine va_get (D := D) (ci := 3) (v := .ref (ma 3)) (C := R_M) (T := F_M) (N := 23) hx hb hts in_M hown hK hP 0 rfl rfl 5 (by decide) (hts _ wd_519) (fun _ h9 => h9) rfl d_M_raw_1 ?_
  refine lv_iload_n hx hb d_M_raw_4 rfl (lv_at hl 1 rfl) ?_
  refine n_iald hx hb hK hP 3 0 rfl rfl (i := t) (by omega) (by omega) d_M_raw_5 ?_
  refine lv_istore_n (lv' := [(3, .int (nI (ta t))), (0, .ref (ma 0)), (1, .int (nI t)), (2, .int (nI n))]) hx hb d_M_raw_6 rfl hl (by decide) rfl (fun ls hl => ?_)
  refine lv_aload_n hx hb d_M_raw_7 rfl (lv_at hl 1 rfl) ?_
  refine va_get (D := D) (ci := 3) (v := .ref (ma 4)) (C := R_M) (T := F_M) (N := 23) hx hb hts in_M hown hK hP 0 rfl rfl 6 (by decide) (hts _ wd_520) (fun _ h9 => h9) rfl d_M_raw_8 ?_
  refine lv_iload_n hx hb d_M_raw_11 rfl (lv_at hl 2 rfl) ?_
  refine n_iald hx hb hK hP 4 0 rfl rfl (i := t) (by omega) (by omega) d_M_raw_12 ?_
  rw [hbj]
  refine lv_istore (lv' := [(4, .int (nI j)), (3, .int (nI (ta t))), (0, .ref (ma 0)), (1, .int (nI t)), (2, .int (nI n))]) hx hb d_M_raw_13 hl (by decide) rfl (fun ls hl => ?_)
  refine lv_aload_n hx hb d_M_raw_15 rfl (lv_at hl 2 rfl) ?_
  refine va_get (D := D) (ci := 3) (v := .ref (ma 2)) (C := R_M) (T := F_M) (N := 23) hx hb hts in_M hown hK hP 0 rfl rfl 4 (by decide) (hts _ wd_518) (fun _ h9 => h9) rfl d_M_raw_16 ?_
  refine lv_iload_n hx hb d_M_raw_19 rfl (lv_at hl 3 rfl) ?_
  refine n_iald hx hb hK hP 2 0 rfl rfl (i := t) (by omega) (by omega) d_M_raw_20 ?_
  rw [hk]
  refine lv_tableIn (tgt := 200) (off := 179) hx hb d_M_raw_21 (by decide +kernel) (by decide +kernel) (by decide +kernel) (by decide) ?_
  refine lv_aload_n hx hb d_M_raw_200 rfl (lv_at hl 2 rfl) ?_
  refine va_get (D := D) (ci := 3) (v := .ref (ma 14)) (C := R_M) (T := F_M) (N := 23) hx hb hts in_M hown hK hP 0 rfl rfl 21 (by decide) (hts _ wd_535) (fun _ h9 => h9) rfl d_M_raw_201 ?_
  refine lv_iload_n hx hb d_M_raw_204 rfl (lv_at hl 1 rfl) ?_
  refine n_iald hx hb hK hP 14 0 rfl rfl (i := ta t) (by omega) (by omega) d_M_raw_205 ?_
  refine lv_iload hx hb d_M_raw_206 (lv_at hl 0 rfl) ?_
  refine lv_ishl hx hb d_M_raw_208 ?_
  exact fn_iret hx hb hr hlocks hAe hK hP hD hS rfl d_M_raw_209
set_option maxHeartbeats 4000000 in
set_option maxRecDepth 100000 in
theorem c_M_raw_10 (l : Launch) (D : va_G) (ma : Nat → Nat) (cI cZ : ClassId) (th nv nb nt nf na lv nm : Nat) (vw tk ta : Nat → Nat) (tb tc : Nat → Int32) (tw fk fa : Nat → Nat) (fb : Nat → Int32) (od sd aa am vl : Nat → Nat) (ho : Nat → Bool) (hok : Mok nv nb nt nf na lv nm vw tk ta tb tc tw fk fa fb od sd am vl) (t n : Nat) (hn : n < 1024) (ht : t < nt) (hk : tk t = 10) (ha : ta t < nt) (j : Nat) (hj : j ≤ 4) (hbj : tb t = nI j)  (kc0 : Nat) : Fn l y_M_raw (wk y_M_raw b_M_raw 5 (some .int)) rm_M_raw D cls [(cI, .int), (cZ, .boolean)] [.ref (ma 0), .int (nI t), .int (nI n)] (mW ma cI cZ th nv nb nt nf na lv nm vw tk ta tb tc tw fk fa fb od sd aa am vl ho) XT (some (.int (rawI 10 (ta t) j kc0 (gvN nv vw n) vl ho tw))) (mW ma cI cZ th nv nb nt nf na lv nm vw tk ta tb tc tw fk fa fb od sd aa am vl ho) := by
  refine Fn.of (by decide) rfl (Nat.le_of_ble_eq_true rfl) ?_
  intro p e s m below meth c A ls hx hb hml hr hts0 hown hlocks hnm hP hK hD hS hA hAe hX hl
  have hts : ∀ w ∈ lw_ok, w.before _ s = true := fun w h => hts0 w (List.mem_cons_of_mem _ h)
  have hown : s.vm.findClass R_M = some m.cls := hown
  have hP : va_P D cls (mW ma cI cZ th nv nb nt nf na lv nm vw tk ta tb tc tw fk fa fb od sd aa am vl ho) s.heap := hP
  have hl : lv_has ls 5 [(0, .ref (ma 0)), (1, .int (nI t)), (2, .int (nI n))] := hl
  obtain ⟨o_nv, o_nb, o_nt, o_nf, o_na, o_lv, o_nm, o_vw, o_tw, o_am, o_sd, o_T, o_F, o_od, o_vl⟩ := id hok
  have va := o_vl (ta t)
  refine lv_aload_n hx hb d_M_raw_0 rfl (lv_at hl 0 rfl) ?_
  refine va_get (D := D) (ci := 3) (v := .ref (ma 3)) (C := R_M) (T := F_M) (N := 23) hx hb hts in_M hown hK hP 0 rfl rfl 5 (by decide) (hts _ wd_519) (fun _ h9 => h9) rfl d_M_raw_1 ?_
  refine lv_iload_n hx hb d_M_raw_4 rfl (lv_at hl 1 rfl) ?_
  refine n_iald hx hb hK hP 3 0 rfl rfl (i := t) (by omega) (by omega) d_M_raw_5 ?_
  refine lv_istore_n (lv' := [(3, .int (nI (ta t))), (0, .ref (ma 0)), (1, .int (nI t)), (2, .int (nI n))]) hx hb d_M_raw_6 rfl hl (by decide) rfl (fun ls hl => ?_)
  refine lv_aload_n hx hb d_M_raw_7 rfl (lv_at hl 1 rfl) ?_
  refine va_get (D := D) (ci := 3) (v := .ref (ma 4)) (C := R_M) (T := F_M) (N := 23) hx hb hts in_M hown hK hP 0 rfl rfl 6 (by decide) (hts _ wd_520) (fun _ h9 => h9) rfl d_M_raw_8 ?_
  refine lv_iload_n hx hb d_M_raw_11 rfl (lv_at hl 2 rfl) ?_
  refine n_iald hx hb hK hP 4 0 rfl rfl (i := t) (by omega) (by omega) d_M_raw_12 ?_
  rw [hbj]
  refine lv_istore (lv' := [(4, .int (nI j)), (3, .int (nI (ta t))), (0, .ref (ma 0)), (1, .int (nI t)), (2, .int (nI n))]) hx hb d_M_raw_13 hl (by decide) rfl (fun ls hl => ?_)
  refine lv_aload_n hx hb d_M_raw_15 rfl (lv_at hl 2 rfl) ?_
  refine va_get (D := D) (ci := 3) (v := .ref (ma 2)) (C := R_M) (T := F_M) (N := 23) hx hb hts in_M hown hK hP 0 rfl rfl 4 (by decide) (hts _ wd_518) (fun _ h9 => h9) rfl d_M_raw_16 ?_
  refine lv_iload_n hx hb d_M_raw_19 rfl (lv_at hl 3 rfl) ?_
  refine n_iald hx hb hK hP 2 0 rfl rfl (i := t) (by omega) (by omega) d_M_raw_20 ?_
  rw [hk]
  refine lv_tableIn (tgt := 210) (off := 189) hx hb d_M_raw_21 (by decide +kernel) (by decide +kernel) (by decide +kernel) (by decide) ?_
  refine lv_aload_n hx hb d_M_raw_210 rfl (lv_at hl 2 rfl) ?_
  refine va_get (D := D) (ci := 3) (v := .ref (ma 14)) (C := R_M) (T := F_M) (N := 23) hx hb hts in_M hown hK hP 0 rfl rfl 21 (by decide) (hts _ wd_535) (fun _ h9 => h9) rfl d_M_raw_211 ?_
  refine lv_iload_n hx hb d_M_raw_214 rfl (lv_at hl 1 rfl) ?_
  refine n_iald hx hb hK hP 14 0 rfl rfl (i := ta t) (by omega) (by omega) d_M_raw_215 ?_
  refine lv_iload hx hb d_M_raw_216 (lv_at hl 0 rfl) ?_
  refine n_shr hx hb (by omega) (by omega) d_M_raw_218 ?_
  exact fn_iret hx hb hr hlocks hAe hK hP hD hS rfl d_M_raw_219
set_option maxHeartbeats 4000000 in
set_option maxRecDepth 100000 in
theorem c_M_raw_11 (l : Launch) (D : va_G) (ma : Nat → Nat) (cI cZ : ClassId) (th nv nb nt nf na lv nm : Nat) (vw tk ta : Nat → Nat) (tb tc : Nat → Int32) (tw fk fa : Nat → Nat) (fb : Nat → Int32) (od sd aa am vl : Nat → Nat) (ho : Nat → Bool) (hok : Mok nv nb nt nf na lv nm vw tk ta tb tc tw fk fa fb od sd am vl) (t n : Nat) (hn : n < 1024) (ht : t < nt) (hk : tk t = 11) (ha : ta t < nt) (j : Nat) (hj : j ≤ 4) (hbj : tb t = nI j)  (kc0 : Nat) : Fn l y_M_raw (wk y_M_raw b_M_raw 5 (some .int)) rm_M_raw D cls [(cI, .int), (cZ, .boolean)] [.ref (ma 0), .int (nI t), .int (nI n)] (mW ma cI cZ th nv nb nt nf na lv nm vw tk ta tb tc tw fk fa fb od sd aa am vl ho) XT (some (.int (rawI 11 (ta t) j kc0 (gvN nv vw n) vl ho tw))) (mW ma cI cZ th nv nb nt nf na lv nm vw tk ta tb tc tw fk fa fb od sd aa am vl ho) := by
  refine Fn.of (by decide) rfl (Nat.le_of_ble_eq_true rfl) ?_
  intro p e s m below meth c A ls hx hb hml hr hts0 hown hlocks hnm hP hK hD hS hA hAe hX hl
  have hts : ∀ w ∈ lw_ok, w.before _ s = true := fun w h => hts0 w (List.mem_cons_of_mem _ h)
  have hown : s.vm.findClass R_M = some m.cls := hown
  have hP : va_P D cls (mW ma cI cZ th nv nb nt nf na lv nm vw tk ta tb tc tw fk fa fb od sd aa am vl ho) s.heap := hP
  have hl : lv_has ls 5 [(0, .ref (ma 0)), (1, .int (nI t)), (2, .int (nI n))] := hl
  obtain ⟨o_nv, o_nb, o_nt, o_nf, o_na, o_lv, o_nm, o_vw, o_tw, o_am, o_sd, o_T, o_F, o_od, o_vl⟩ := id hok
  have va := o_vl (ta t)
  have oa := o_tw (ta t) ha
  refine lv_aload_n hx hb d_M_raw_0 rfl (lv_at hl 0 rfl) ?_
  refine va_get (D := D) (ci := 3) (v := .ref (ma 3)) (C := R_M) (T := F_M) (N := 23) hx hb hts in_M hown hK hP 0 rfl rfl 5 (by decide) (hts _ wd_519) (fun _ h9 => h9) rfl d_M_raw_1 ?_
  refine lv_iload_n hx hb d_M_raw_4 rfl (lv_at hl 1 rfl) ?_
  refine n_iald hx hb hK hP 3 0 rfl rfl (i := t) (by omega) (by omega) d_M_raw_5 ?_
  refine lv_istore_n (lv' := [(3, .int (nI (ta t))), (0, .ref (ma 0)), (1, .int (nI t)), (2, .int (nI n))]) hx hb d_M_raw_6 rfl hl (by decide) rfl (fun ls hl => ?_)
  refine lv_aload_n hx hb d_M_raw_7 rfl (lv_at hl 1 rfl) ?_
  refine va_get (D := D) (ci := 3) (v := .ref (ma 4)) (C := R_M) (T := F_M) (N := 23) hx hb hts in_M hown hK hP 0 rfl rfl 6 (by decide) (hts _ wd_520) (fun _ h9 => h9) rfl d_M_raw_8 ?_
  refine lv_iload_n hx hb d_M_raw_11 rfl (lv_at hl 2 rfl) ?_
  refine n_iald hx hb hK hP 4 0 rfl rfl (i := t) (by omega) (by omega) d_M_raw_12 ?_
  rw [hbj]
  refine lv_istore (lv' := [(4, .int (nI j)), (3, .int (nI (ta t))), (0, .ref (ma 0)), (1, .int (nI t)), (2, .int (nI n))]) hx hb d_M_raw_13 hl (by decide) rfl (fun ls hl => ?_)
  refine lv_aload_n hx hb d_M_raw_15 rfl (lv_at hl 2 rfl) ?_
  refine va_get (D := D) (ci := 3) (v := .ref (ma 2)) (C := R_M) (T := F_M) (N := 23) hx hb hts in_M hown hK hP 0 rfl rfl 4 (by decide) (hts _ wd_518) (fun _ h9 => h9) rfl d_M_raw_16 ?_
  refine lv_iload_n hx hb d_M_raw_19 rfl (lv_at hl 3 rfl) ?_
  refine n_iald hx hb hK hP 2 0 rfl rfl (i := t) (by omega) (by omega) d_M_raw_20 ?_
  rw [hk]
  refine lv_tableIn (tgt := 220) (off := 199) hx hb d_M_raw_21 (by decide +kernel) (by decide +kernel) (by decide +kernel) (by decide) ?_
  refine lv_aload_n hx hb d_M_raw_220 rfl (lv_at hl 2 rfl) ?_
  refine va_get (D := D) (ci := 3) (v := .ref (ma 14)) (C := R_M) (T := F_M) (N := 23) hx hb hts in_M hown hK hP 0 rfl rfl 21 (by decide) (hts _ wd_535) (fun _ h9 => h9) rfl d_M_raw_221 ?_
  refine lv_iload_n hx hb d_M_raw_224 rfl (lv_at hl 1 rfl) ?_
  refine n_iald hx hb hK hP 14 0 rfl rfl (i := ta t) (by omega) (by omega) d_M_raw_225 ?_
  refine lv_aload_n hx hb d_M_raw_226 rfl (lv_at hl 2 rfl) ?_
  refine va_get (D := D) (ci := 3) (v := .ref (ma 6)) (C := R_M) (T := F_M) (N := 23) hx hb hts in_M hown hK hP 0 rfl rfl 8 (by decide) (hts _ wd_522) (fun _ h9 => h9) rfl d_M_raw_227 ?_
  refine lv_iload_n hx hb d_M_raw_230 rfl (lv_at hl 1 rfl) ?_
  refine n_iald hx hb hK hP 6 0 rfl rfl (i := ta t) (by omega) (by omega) d_M_raw_231 ?_
  refine fn_S (ws' := (mW ma cI cZ th nv nb nt nf na lv nm vw tk ta tb tc tw fk fa fb od sd aa am vl ho)) (w1 := (nilW)) (wc := (nilW)) (wr := [(ma 0, .inr (3, [.int (nI th), .ref (ma 1), .int (nI nv), .int (nI nb), .ref (ma 2), .ref (ma 3), .ref (ma 4), .ref (ma 5), .ref (ma 6), .int (nI nt), .ref (ma 7), .ref (ma 8), .ref (ma 9), .int (nI nf), .ref (ma 10), .ref (ma 11), .ref (ma 12), .int (nI na), .int (nI lv), .ref (ma 13), .int (nI nm), .ref (ma 14), .ref (ma 15)])), (ma 1, .inl (cI, 6, .inl (fun j => nI (vw j)))), (ma 2, .inl (cI, 50, .inl (fun j => nI (tk j)))), (ma 3, .inl (cI, 50, .inl (fun j => nI (ta j)))), (ma 4, .inl (cI, 50, .inl tb)), (ma 5, .inl (cI, 50, .inl tc)), (ma 6, .inl (cI, 50, .inl (fun j => nI (tw j)))), (ma 7, .inl (cI, 50, .inl (fun j => nI (fk j)))), (ma 8, .inl (cI, 50, .inl (fun j => nI (fa j)))), (ma 9, .inl (cI, 50, .inl fb)), (ma 10, .inl (cI, 100, .inl (fun j => nI (od j)))), (ma 11, .inl (cI, 30, .inl (fun j => nI (sd j)))), (ma 12, .inl (cI, 30, .inl (fun j => nI (aa j)))), (ma 13, .inl (cI, 8, .inl (fun j => nI (am j)))), (ma 14, .inl (cI, 50, .inl (fun j => nI (vl j)))), (ma 15, .inl (cZ, 50, .inl (fun j => bI (ho j))))]) ⟨hx, hb, hml, hown, hts⟩ (c_M_signed l D (vl (ta t)) (tw (ta t)) (by omega) (by omega) (by omega)) ⟨callB_of 2 hts (gW wd_662) rfl rfl rfl (hts _ wd_4) (hts _ wd_660) hd_M_signed ⟨Nat.le_of_ble_eq_true rfl, Nat.le_of_ble_eq_true rfl⟩, hts _ wd_661⟩ XT_ok (fun _ _ _ => trivial) hK hP hD hS hA [] [] [0, 1, 2, 3, 4, 5, 6, 7, 8, 9, 10, 11, 12, 13, 14, 15] [0, 1, 2, 3, 4, 5, 6, 7, 8, 9, 10, 11, 12, 13, 14, 15] rfl rfl rfl rfl rfl (by decide) rfl rfl rfl hl.1 rfl (Nat.le_of_ble_eq_true rfl) d_M_raw_232 ⟨Nat.zero_le _, Nat.zero_le _⟩ (st1 := [.int (sgI (vl (ta t)) (tw (ta t)))]) rfl (fun H locs hP hD hS => ?_)
  refine lv_iload hx hb d_M_raw_235 (lv_at hl 0 rfl) ?_
  refine lv_ishr hx hb d_M_raw_237 ?_
  exact fn_iret hx hb hr hlocks hAe hK hP hD hS rfl d_M_raw_238
set_option maxHeartbeats 4000000 in
set_option maxRecDepth 100000 in
theorem c_M_raw_12 (l : Launch) (D : va_G) (ma : Nat → Nat) (cI cZ : ClassId) (th nv nb nt nf na lv nm : Nat) (vw tk ta : Nat → Nat) (tb tc : Nat → Int32) (tw fk fa : Nat → Nat) (fb : Nat → Int32) (od sd aa am vl : Nat → Nat) (ho : Nat → Bool) (hok : Mok nv nb nt nf na lv nm vw tk ta tb tc tw fk fa fb od sd am vl) (t n : Nat) (hn : n < 1024) (ht : t < nt) (hk : tk t = 12) (ha : ta t < nf) (j : Nat) (hj : j < nt) (hbj : tb t = nI j) (q : Nat) (hq : q < nt) (hcj : tc t = nI q)   : Fn l y_M_raw (wk y_M_raw b_M_raw 5 (some .int)) rm_M_raw D cls [(cI, .int), (cZ, .boolean)] [.ref (ma 0), .int (nI t), .int (nI n)] (mW ma cI cZ th nv nb nt nf na lv nm vw tk ta tb tc tw fk fa fb od sd aa am vl ho) XT (some (.int (rawI 12 (ta t) j q (gvN nv vw n) vl ho tw))) (mW ma cI cZ th nv nb nt nf na lv nm vw tk ta tb tc tw fk fa fb od sd aa am vl ho) := by
  refine Fn.of (by decide) rfl (Nat.le_of_ble_eq_true rfl) ?_
  intro p e s m below meth c A ls hx hb hml hr hts0 hown hlocks hnm hP hK hD hS hA hAe hX hl
  have hts : ∀ w ∈ lw_ok, w.before _ s = true := fun w h => hts0 w (List.mem_cons_of_mem _ h)
  have hown : s.vm.findClass R_M = some m.cls := hown
  have hP : va_P D cls (mW ma cI cZ th nv nb nt nf na lv nm vw tk ta tb tc tw fk fa fb od sd aa am vl ho) s.heap := hP
  have hl : lv_has ls 5 [(0, .ref (ma 0)), (1, .int (nI t)), (2, .int (nI n))] := hl
  obtain ⟨o_nv, o_nb, o_nt, o_nf, o_na, o_lv, o_nm, o_vw, o_tw, o_am, o_sd, o_T, o_F, o_od, o_vl⟩ := id hok
  have va := o_vl (ta t)
  refine lv_aload_n hx hb d_M_raw_0 rfl (lv_at hl 0 rfl) ?_
  refine va_get (D := D) (ci := 3) (v := .ref (ma 3)) (C := R_M) (T := F_M) (N := 23) hx hb hts in_M hown hK hP 0 rfl rfl 5 (by decide) (hts _ wd_519) (fun _ h9 => h9) rfl d_M_raw_1 ?_
  refine lv_iload_n hx hb d_M_raw_4 rfl (lv_at hl 1 rfl) ?_
  refine n_iald hx hb hK hP 3 0 rfl rfl (i := t) (by omega) (by omega) d_M_raw_5 ?_
  refine lv_istore_n (lv' := [(3, .int (nI (ta t))), (0, .ref (ma 0)), (1, .int (nI t)), (2, .int (nI n))]) hx hb d_M_raw_6 rfl hl (by decide) rfl (fun ls hl => ?_)
  refine lv_aload_n hx hb d_M_raw_7 rfl (lv_at hl 1 rfl) ?_
  refine va_get (D := D) (ci := 3) (v := .ref (ma 4)) (C := R_M) (T := F_M) (N := 23) hx hb hts in_M hown hK hP 0 rfl rfl 6 (by decide) (hts _ wd_520) (fun _ h9 => h9) rfl d_M_raw_8 ?_
  refine lv_iload_n hx hb d_M_raw_11 rfl (lv_at hl 2 rfl) ?_
  refine n_iald hx hb hK hP 4 0 rfl rfl (i := t) (by omega) (by omega) d_M_raw_12 ?_
  rw [hbj]
  refine lv_istore (lv' := [(4, .int (nI j)), (3, .int (nI (ta t))), (0, .ref (ma 0)), (1, .int (nI t)), (2, .int (nI n))]) hx hb d_M_raw_13 hl (by decide) rfl (fun ls hl => ?_)
  refine lv_aload_n hx hb d_M_raw_15 rfl (lv_at hl 2 rfl) ?_
  refine va_get (D := D) (ci := 3) (v := .ref (ma 2)) (C := R_M) (T := F_M) (N := 23) hx hb hts in_M hown hK hP 0 rfl rfl 4 (by decide) (hts _ wd_518) (fun _ h9 => h9) rfl d_M_raw_16 ?_
  refine lv_iload_n hx hb d_M_raw_19 rfl (lv_at hl 3 rfl) ?_
  refine n_iald hx hb hK hP 2 0 rfl rfl (i := t) (by omega) (by omega) d_M_raw_20 ?_
  rw [hk]
  refine lv_tableIn (tgt := 239) (off := 218) hx hb d_M_raw_21 (by decide +kernel) (by decide +kernel) (by decide +kernel) (by decide) ?_
  refine lv_aload_n hx hb d_M_raw_239 rfl (lv_at hl 2 rfl) ?_
  refine va_get (D := D) (ci := 3) (v := .ref (ma 15)) (C := R_M) (T := F_M) (N := 23) hx hb hts in_M hown hK hP 0 rfl rfl 22 (by decide) (hts _ wd_536) (fun _ h9 => h9) rfl d_M_raw_240 ?_
  refine lv_iload_n hx hb d_M_raw_243 rfl (lv_at hl 1 rfl) ?_
  refine n_zald hx hb hK hP 15 1 rfl rfl (i := ta t) (by omega) (by omega) d_M_raw_244 ?_
  refine b_if_eq (tgt := 258) hx hb d_M_raw_245 (by decide) (fun c_245 => ?_) (fun c_245 => ?_)
  · refine lv_aload_n hx hb d_M_raw_258 rfl (lv_at hl 2 rfl) ?_
    refine va_get (D := D) (ci := 3) (v := .ref (ma 14)) (C := R_M) (T := F_M) (N := 23) hx hb hts in_M hown hK hP 0 rfl rfl 21 (by decide) (hts _ wd_535) (fun _ h9 => h9) rfl d_M_raw_259 ?_
    refine lv_aload_n hx hb d_M_raw_262 rfl (lv_at hl 2 rfl) ?_
    refine va_get (D := D) (ci := 3) (v := .ref (ma 5)) (C := R_M) (T := F_M) (N := 23) hx hb hts in_M hown hK hP 0 rfl rfl 7 (by decide) (hts _ wd_521) (fun _ h9 => h9) rfl d_M_raw_263 ?_
    refine lv_iload_n hx hb d_M_raw_266 rfl (lv_at hl 3 rfl) ?_
    refine n_iald hx hb hK hP 5 0 rfl rfl (i := t) (by omega) (by omega) d_M_raw_267 ?_
    rw [hcj]
    refine n_iald hx hb hK hP 14 0 rfl rfl (i := q) (by omega) (by omega) d_M_raw_268 ?_
    exact fn_iret hx hb hr hlocks hAe hK hP hD hS (congrArg nI (if_neg (by rw [c_245]; decide)).symm) d_M_raw_269
  · refine lv_aload_n hx hb d_M_raw_248 rfl (lv_at hl 2 rfl) ?_
    refine va_get (D := D) (ci := 3) (v := .ref (ma 14)) (C := R_M) (T := F_M) (N := 23) hx hb hts in_M hown hK hP 0 rfl rfl 21 (by decide) (hts _ wd_535) (fun _ h9 => h9) rfl d_M_raw_249 ?_
    refine lv_iload hx hb d_M_raw_252 (lv_at hl 0 rfl) ?_
    refine n_iald hx hb hK hP 14 0 rfl rfl (i := j) (by omega) (by omega) d_M_raw_254 ?_
    refine lv_goto (tgt := 269) hx hb d_M_raw_255 (by decide) ?_
    exact fn_iret hx hb hr hlocks hAe hK hP hD hS (congrArg nI (if_pos c_245).symm) d_M_raw_269
set_option maxHeartbeats 4000000 in
set_option maxRecDepth 100000 in
theorem c_M_raw_13 (l : Launch) (D : va_G) (ma : Nat → Nat) (cI cZ : ClassId) (th nv nb nt nf na lv nm : Nat) (vw tk ta : Nat → Nat) (tb tc : Nat → Int32) (tw fk fa : Nat → Nat) (fb : Nat → Int32) (od sd aa am vl : Nat → Nat) (ho : Nat → Bool) (hok : Mok nv nb nt nf na lv nm vw tk ta tb tc tw fk fa fb od sd am vl) (t n : Nat) (hn : n < 1024) (ht : t < nt) (hk : tk t = 13) (ha : ta t < nt) (j : Nat) (hj : j < nt) (hbj : tb t = nI j)  (kc0 : Nat) : Fn l y_M_raw (wk y_M_raw b_M_raw 5 (some .int)) rm_M_raw D cls [(cI, .int), (cZ, .boolean)] [.ref (ma 0), .int (nI t), .int (nI n)] (mW ma cI cZ th nv nb nt nf na lv nm vw tk ta tb tc tw fk fa fb od sd aa am vl ho) XT (some (.int (rawI 13 (ta t) j kc0 (gvN nv vw n) vl ho tw))) (mW ma cI cZ th nv nb nt nf na lv nm vw tk ta tb tc tw fk fa fb od sd aa am vl ho) := by
  refine Fn.of (by decide) rfl (Nat.le_of_ble_eq_true rfl) ?_
  intro p e s m below meth c A ls hx hb hml hr hts0 hown hlocks hnm hP hK hD hS hA hAe hX hl
  have hts : ∀ w ∈ lw_ok, w.before _ s = true := fun w h => hts0 w (List.mem_cons_of_mem _ h)
  have hown : s.vm.findClass R_M = some m.cls := hown
  have hP : va_P D cls (mW ma cI cZ th nv nb nt nf na lv nm vw tk ta tb tc tw fk fa fb od sd aa am vl ho) s.heap := hP
  have hl : lv_has ls 5 [(0, .ref (ma 0)), (1, .int (nI t)), (2, .int (nI n))] := hl
  obtain ⟨o_nv, o_nb, o_nt, o_nf, o_na, o_lv, o_nm, o_vw, o_tw, o_am, o_sd, o_T, o_F, o_od, o_vl⟩ := id hok
  have va := o_vl (ta t)
  have oa := o_tw (ta t) ha
  refine lv_aload_n hx hb d_M_raw_0 rfl (lv_at hl 0 rfl) ?_
  refine va_get (D := D) (ci := 3) (v := .ref (ma 3)) (C := R_M) (T := F_M) (N := 23) hx hb hts in_M hown hK hP 0 rfl rfl 5 (by decide) (hts _ wd_519) (fun _ h9 => h9) rfl d_M_raw_1 ?_
  refine lv_iload_n hx hb d_M_raw_4 rfl (lv_at hl 1 rfl) ?_
  refine n_iald hx hb hK hP 3 0 rfl rfl (i := t) (by omega) (by omega) d_M_raw_5 ?_
  refine lv_istore_n (lv' := [(3, .int (nI (ta t))), (0, .ref (ma 0)), (1, .int (nI t)), (2, .int (nI n))]) hx hb d_M_raw_6 rfl hl (by decide) rfl (fun ls hl => ?_)
  refine lv_aload_n hx hb d_M_raw_7 rfl (lv_at hl 1 rfl) ?_
  refine va_get (D := D) (ci := 3) (v := .ref (ma 4)) (C := R_M) (T := F_M) (N := 23) hx hb hts in_M hown hK hP 0 rfl rfl 6 (by decide) (hts _ wd_520) (fun _ h9 => h9) rfl d_M_raw_8 ?_
  refine lv_iload_n hx hb d_M_raw_11 rfl (lv_at hl 2 rfl) ?_
  refine n_iald hx hb hK hP 4 0 rfl rfl (i := t) (by omega) (by omega) d_M_raw_12 ?_
  rw [hbj]
  refine lv_istore (lv' := [(4, .int (nI j)), (3, .int (nI (ta t))), (0, .ref (ma 0)), (1, .int (nI t)), (2, .int (nI n))]) hx hb d_M_raw_13 hl (by decide) rfl (fun ls hl => ?_)
  refine lv_aload_n hx hb d_M_raw_15 rfl (lv_at hl 2 rfl) ?_
  refine va_get (D := D) (ci := 3) (v := .ref (ma 2)) (C := R_M) (T := F_M) (N := 23) hx hb hts in_M hown hK hP 0 rfl rfl 4 (by decide) (hts _ wd_518) (fun _ h9 => h9) rfl d_M_raw_16 ?_
  refine lv_iload_n hx hb d_M_raw_19 rfl (lv_at hl 3 rfl) ?_
  refine n_iald hx hb hK hP 2 0 rfl rfl (i := t) (by omega) (by omega) d_M_raw_20 ?_
  rw [hk]
  refine lv_tableIn (tgt := 270) (off := 249) hx hb d_M_raw_21 (by decide +kernel) (by decide +kernel) (by decide +kernel) (by decide) ?_
  refine lv_aload_n hx hb d_M_raw_270 rfl (lv_at hl 2 rfl) ?_
  refine va_get (D := D) (ci := 3) (v := .ref (ma 14)) (C := R_M) (T := F_M) (N := 23) hx hb hts in_M hown hK hP 0 rfl rfl 21 (by decide) (hts _ wd_535) (fun _ h9 => h9) rfl d_M_raw_271 ?_
  refine lv_iload_n hx hb d_M_raw_274 rfl (lv_at hl 1 rfl) ?_
  refine n_iald hx hb hK hP 14 0 rfl rfl (i := ta t) (by omega) (by omega) d_M_raw_275 ?_
  refine lv_aload_n hx hb d_M_raw_276 rfl (lv_at hl 2 rfl) ?_
  refine va_get (D := D) (ci := 3) (v := .ref (ma 14)) (C := R_M) (T := F_M) (N := 23) hx hb hts in_M hown hK hP 0 rfl rfl 21 (by decide) (hts _ wd_535) (fun _ h9 => h9) rfl d_M_raw_277 ?_
  refine lv_iload hx hb d_M_raw_280 (lv_at hl 0 rfl) ?_
  refine n_iald hx hb hK hP 14 0 rfl rfl (i := j) (by omega) (by omega) d_M_raw_282 ?_
  refine lv_aload_n hx hb d_M_raw_283 rfl (lv_at hl 2 rfl) ?_
  refine va_get (D := D) (ci := 3) (v := .ref (ma 6)) (C := R_M) (T := F_M) (N := 23) hx hb hts in_M hown hK hP 0 rfl rfl 8 (by decide) (hts _ wd_522) (fun _ h9 => h9) rfl d_M_raw_284 ?_
  refine lv_iload_n hx hb d_M_raw_287 rfl (lv_at hl 1 rfl) ?_
  refine n_iald hx hb hK hP 6 0 rfl rfl (i := ta t) (by omega) (by omega) d_M_raw_288 ?_
  refine lv_ishl hx hb d_M_raw_289 ?_
  refine lv_iadd hx hb d_M_raw_290 ?_
  exact fn_iret hx hb hr hlocks hAe hK hP hD hS rfl d_M_raw_291
set_option maxHeartbeats 4000000 in
set_option maxRecDepth 100000 in
theorem c_M_raw_14 (l : Launch) (D : va_G) (ma : Nat → Nat) (cI cZ : ClassId) (th nv nb nt nf na lv nm : Nat) (vw tk ta : Nat → Nat) (tb tc : Nat → Int32) (tw fk fa : Nat → Nat) (fb : Nat → Int32) (od sd aa am vl : Nat → Nat) (ho : Nat → Bool) (hok : Mok nv nb nt nf na lv nm vw tk ta tb tc tw fk fa fb od sd am vl) (t n : Nat) (hn : n < 1024) (ht : t < nt) (hk : tk t = 14) (ha : ta t < nt) (j : Nat) (hj : j ≤ 4) (hbj : tb t = nI j)  (kc0 : Nat) : Fn l y_M_raw (wk y_M_raw b_M_raw 5 (some .int)) rm_M_raw D cls [(cI, .int), (cZ, .boolean)] [.ref (ma 0), .int (nI t), .int (nI n)] (mW ma cI cZ th nv nb nt nf na lv nm vw tk ta tb tc tw fk fa fb od sd aa am vl ho) XT (some (.int (rawI 14 (ta t) j kc0 (gvN nv vw n) vl ho tw))) (mW ma cI cZ th nv nb nt nf na lv nm vw tk ta tb tc tw fk fa fb od sd aa am vl ho) := by
  refine Fn.of (by decide) rfl (Nat.le_of_ble_eq_true rfl) ?_
  intro p e s m below meth c A ls hx hb hml hr hts0 hown hlocks hnm hP hK hD hS hA hAe hX hl
  have hts : ∀ w ∈ lw_ok, w.before _ s = true := fun w h => hts0 w (List.mem_cons_of_mem _ h)
  have hown : s.vm.findClass R_M = some m.cls := hown
  have hP : va_P D cls (mW ma cI cZ th nv nb nt nf na lv nm vw tk ta tb tc tw fk fa fb od sd aa am vl ho) s.heap := hP
  have hl : lv_has ls 5 [(0, .ref (ma 0)), (1, .int (nI t)), (2, .int (nI n))] := hl
  obtain ⟨o_nv, o_nb, o_nt, o_nf, o_na, o_lv, o_nm, o_vw, o_tw, o_am, o_sd, o_T, o_F, o_od, o_vl⟩ := id hok
  have va := o_vl (ta t)
  refine lv_aload_n hx hb d_M_raw_0 rfl (lv_at hl 0 rfl) ?_
  refine va_get (D := D) (ci := 3) (v := .ref (ma 3)) (C := R_M) (T := F_M) (N := 23) hx hb hts in_M hown hK hP 0 rfl rfl 5 (by decide) (hts _ wd_519) (fun _ h9 => h9) rfl d_M_raw_1 ?_
  refine lv_iload_n hx hb d_M_raw_4 rfl (lv_at hl 1 rfl) ?_
  refine n_iald hx hb hK hP 3 0 rfl rfl (i := t) (by omega) (by omega) d_M_raw_5 ?_
  refine lv_istore_n (lv' := [(3, .int (nI (ta t))), (0, .ref (ma 0)), (1, .int (nI t)), (2, .int (nI n))]) hx hb d_M_raw_6 rfl hl (by decide) rfl (fun ls hl => ?_)
  refine lv_aload_n hx hb d_M_raw_7 rfl (lv_at hl 1 rfl) ?_
  refine va_get (D := D) (ci := 3) (v := .ref (ma 4)) (C := R_M) (T := F_M) (N := 23) hx hb hts in_M hown hK hP 0 rfl rfl 6 (by decide) (hts _ wd_520) (fun _ h9 => h9) rfl d_M_raw_8 ?_
  refine lv_iload_n hx hb d_M_raw_11 rfl (lv_at hl 2 rfl) ?_
  refine n_iald hx hb hK hP 4 0 rfl rfl (i := t) (by omega) (by omega) d_M_raw_12 ?_
  rw [hbj]
  refine lv_istore (lv' := [(4, .int (nI j)), (3, .int (nI (ta t))), (0, .ref (ma 0)), (1, .int (nI t)), (2, .int (nI n))]) hx hb d_M_raw_13 hl (by decide) rfl (fun ls hl => ?_)
  refine lv_aload_n hx hb d_M_raw_15 rfl (lv_at hl 2 rfl) ?_
  refine va_get (D := D) (ci := 3) (v := .ref (ma 2)) (C := R_M) (T := F_M) (N := 23) hx hb hts in_M hown hK hP 0 rfl rfl 4 (by decide) (hts _ wd_518) (fun _ h9 => h9) rfl d_M_raw_16 ?_
  refine lv_iload_n hx hb d_M_raw_19 rfl (lv_at hl 3 rfl) ?_
  refine n_iald hx hb hK hP 2 0 rfl rfl (i := t) (by omega) (by omega) d_M_raw_20 ?_
  rw [hk]
  refine lv_tableOut (tgt := 292) hx hb d_M_raw_21 (by decide +kernel) (by decide) ?_
  refine lv_aload_n hx hb d_M_raw_292 rfl (lv_at hl 2 rfl) ?_
  refine va_get (D := D) (ci := 3) (v := .ref (ma 14)) (C := R_M) (T := F_M) (N := 23) hx hb hts in_M hown hK hP 0 rfl rfl 21 (by decide) (hts _ wd_535) (fun _ h9 => h9) rfl d_M_raw_293 ?_
  refine lv_iload_n hx hb d_M_raw_296 rfl (lv_at hl 1 rfl) ?_
  refine n_iald hx hb hK hP 14 0 rfl rfl (i := ta t) (by omega) (by omega) d_M_raw_297 ?_
  refine lv_iload hx hb d_M_raw_298 (lv_at hl 0 rfl) ?_
  refine n_shr hx hb (by omega) (by omega) d_M_raw_300 ?_
  exact fn_iret hx hb hr hlocks hAe hK hP hD hS rfl d_M_raw_301
set_option maxHeartbeats 4000000 in
set_option maxRecDepth 100000 in
theorem c_M_raw (l : Launch) (D : va_G) (ma : Nat → Nat) (cI cZ : ClassId) (th nv nb nt nf na lv nm : Nat) (vw tk ta : Nat → Nat) (tb tc : Nat → Int32) (tw fk fa : Nat → Nat) (fb : Nat → Int32) (od sd aa am vl : Nat → Nat) (ho : Nat → Bool) (hok : Mok nv nb nt nf na lv nm vw tk ta tb tc tw fk fa fb od sd am vl) (t n : Nat) (hn : n < 1024) (ht : t < nt) : Fn l y_M_raw (wk y_M_raw b_M_raw 5 (some .int)) rm_M_raw D cls [(cI, .int), (cZ, .boolean)] [.ref (ma 0), .int (nI t), .int (nI n)] (mW ma cI cZ th nv nb nt nf na lv nm vw tk ta tb tc tw fk fa fb od sd aa am vl ho) XT (some (.int (rawI (tk t) (ta t) (nB (tb t)) (nB (tc t)) (gvN nv vw n) vl ho tw))) (mW ma cI cZ th nv nb nt nf na lv nm vw tk ta tb tc tw fk fa fb od sd aa am vl ho) := by
  obtain ⟨o_nv, o_nb, o_nt, o_nf, o_na, o_lv, o_nm, o_vw, o_tw, o_am, o_sd, o_T, o_F, o_od, o_vl⟩ := id hok
  rcases o_T t ht with ⟨hk, ha⟩ | ⟨hk, ha⟩ | ⟨hk, ha, j, hj, hbj⟩ | ⟨hk, ha⟩ | ⟨hk, ha, j, hj, hbj⟩ | ⟨hk, ha, ⟨j, hj, hbj⟩, q, hq, hcj⟩
  · have h := c_M_raw_0 l D ma cI cZ th nv nb nt nf na lv nm vw tk ta tb tc tw fk fa fb od sd aa am vl ho hok t n hn ht hk ha (nB (tb t)) (nB (tc t))
    rw [hk]
    exact h
  · have h := c_M_raw_1 l D ma cI cZ th nv nb nt nf na lv nm vw tk ta tb tc tw fk fa fb od sd aa am vl ho hok t n hn ht hk ha (nB (tb t)) (nB (tc t))
    rw [hk]
    exact h
  · have ej : nB (tb t) = j := by rw [hbj]; exact nB_I (by omega)
    rcases (show tk t = 2 ∨ tk t = 3 ∨ tk t = 4 ∨ tk t = 5 ∨ tk t = 6 ∨ tk t = 7 ∨ tk t = 13 by omega) with hk | hk | hk | hk | hk | hk | hk
    · have h := c_M_raw_2 l D ma cI cZ th nv nb nt nf na lv nm vw tk ta tb tc tw fk fa fb od sd aa am vl ho hok t n hn ht hk ha j hj hbj (nB (tc t))
      rw [hk, ej]
      exact h
    · have h := c_M_raw_3 l D ma cI cZ th nv nb nt nf na lv nm vw tk ta tb tc tw fk fa fb od sd aa am vl ho hok t n hn ht hk ha j hj hbj (nB (tc t))
      rw [hk, ej]
      exact h
    · have h := c_M_raw_4 l D ma cI cZ th nv nb nt nf na lv nm vw tk ta tb tc tw fk fa fb od sd aa am vl ho hok t n hn ht hk ha j hj hbj (nB (tc t))
      rw [hk, ej]
      exact h
    · have h := c_M_raw_5 l D ma cI cZ th nv nb nt nf na lv nm vw tk ta tb tc tw fk fa fb od sd aa am vl ho hok t n hn ht hk ha j hj hbj (nB (tc t))
      rw [hk, ej]
      exact h
    · have h := c_M_raw_6 l D ma cI cZ th nv nb nt nf na lv nm vw tk ta tb tc tw fk fa fb od sd aa am vl ho hok t n hn ht hk ha j hj hbj (nB (tc t))
      rw [hk, ej]
      exact h
    · have h := c_M_raw_7 l D ma cI cZ th nv nb nt nf na lv nm vw tk ta tb tc tw fk fa fb od sd aa am vl ho hok t n hn ht hk ha j hj hbj (nB (tc t))
      rw [hk, ej]
      exact h
    · have h := c_M_raw_13 l D ma cI cZ th nv nb nt nf na lv nm vw tk ta tb tc tw fk fa fb od sd aa am vl ho hok t n hn ht hk ha j hj hbj (nB (tc t))
      rw [hk, ej]
      exact h
  · have h := c_M_raw_8 l D ma cI cZ th nv nb nt nf na lv nm vw tk ta tb tc tw fk fa fb od sd aa am vl ho hok t n hn ht hk ha (nB (tb t)) (nB (tc t))
    rw [hk]
    exact h
  · have ej : nB (tb t) = j := by rw [hbj]; exact nB_I (by omega)
    rcases (show tk t = 9 ∨ tk t = 10 ∨ tk t = 11 ∨ tk t = 14 by omega) with hk | hk | hk | hk
    · have h := c_M_raw_9 l D ma cI cZ th nv nb nt nf na lv nm vw tk ta tb tc tw fk fa fb od sd aa am vl ho hok t n hn ht hk ha j hj hbj (nB (tc t))
      rw [hk, ej]
      exact h
    · have h := c_M_raw_10 l D ma cI cZ th nv nb nt nf na lv nm vw tk ta tb tc tw fk fa fb od sd aa am vl ho hok t n hn ht hk ha j hj hbj (nB (tc t))
      rw [hk, ej]
      exact h
    · have h := c_M_raw_11 l D ma cI cZ th nv nb nt nf na lv nm vw tk ta tb tc tw fk fa fb od sd aa am vl ho hok t n hn ht hk ha j hj hbj (nB (tc t))
      rw [hk, ej]
      exact h
    · have h := c_M_raw_14 l D ma cI cZ th nv nb nt nf na lv nm vw tk ta tb tc tw fk fa fb od sd aa am vl ho hok t n hn ht hk ha j hj hbj (nB (tc t))
      rw [hk, ej]
      exact h
  · have ej : nB (tb t) = j := by rw [hbj]; exact nB_I (by omega)
    have eq : nB (tc t) = q := by rw [hcj]; exact nB_I (by omega)
    have h := c_M_raw_12 l D ma cI cZ th nv nb nt nf na lv nm vw tk ta tb tc tw fk fa fb od sd aa am vl ho hok t n hn ht hk ha j hj hbj q hq hcj
    rw [hk, ej, eq]
    exact h
set_option maxHeartbeats 4000000 in
set_option maxRecDepth 100000 in
theorem c_M_truth_0 (l : Launch) (D : va_G) (ma : Nat → Nat) (cI cZ : ClassId) (th nv nb nt nf na lv nm : Nat) (vw tk ta : Nat → Nat) (tb tc : Nat → Int32) (tw fk fa : Nat → Nat) (fb : Nat → Int32) (od sd aa am vl : Nat → Nat) (ho : Nat → Bool) (hok : Mok nv nb nt nf na lv nm vw tk ta tb tc tw fk fa fb od sd am vl) (f : Nat) (hf : f < nf) (hk : fk f = 0) (ha : fa f < nt) (j : Nat) (hj : j < nt) (hbj : fb f = nI j)  : Fn l y_M_truth (wk y_M_truth b_M_truth 4 (some .boolean)) rm_M_truth D cls [(cI, .int), (cZ, .boolean)] [.ref (ma 0), .int (nI f)] (mW ma cI cZ th nv nb nt nf na lv nm vw tk ta tb tc tw fk fa fb od sd aa am vl ho) XT (some (.int (bI (truB 0 (fa f) j vl ho tw)))) (mW ma cI cZ th nv nb nt nf na lv nm vw tk ta tb tc tw fk fa fb od sd aa am vl ho) := by
  refine Fn.of (by decide) rfl (Nat.le_of_ble_eq_true rfl) ?_
  intro p e s m below meth c A ls hx hb hml hr hts0 hown hlocks hnm hP hK hD hS hA hAe hX hl
  have hts : ∀ w ∈ lw_ok, w.before _ s = true := fun w h => hts0 w (List.mem_cons_of_mem _ h)
  have hown : s.vm.findClass R_M = some m.cls := hown
  have hP : va_P D cls (mW ma cI cZ th nv nb nt nf na lv nm vw tk ta tb tc tw fk fa fb od sd aa am vl ho) s.heap := hP
  have hl : lv_has ls 4 [(0, .ref (ma 0)), (1, .int (nI f))] := hl
  obtain ⟨o_nv, o_nb, o_nt, o_nf, o_na, o_lv, o_nm, o_vw, o_tw, o_am, o_sd, o_T, o_F, o_od, o_vl⟩ := id hok
  have va := o_vl (fa f)
  have vb := o_vl j
  refine lv_aload_n hx hb d_M_truth_0 rfl (lv_at hl 0 rfl) ?_
  refine va_get (D := D) (ci := 3) (v := .ref (ma 8)) (C := R_M) (T := F_M) (N := 23) hx hb hts in_M hown hK hP 0 rfl rfl 11 (by decide) (hts _ wd_525) (fun _ h9 => h9) rfl d_M_truth_1 ?_
  refine lv_iload_n hx hb d_M_truth_4 rfl (lv_at hl 1 rfl) ?_
  refine n_iald hx hb hK hP 8 0 rfl rfl (i := f) (by omega) (by omega) d_M_truth_5 ?_
  refine lv_istore_n (lv' := [(2, .int (nI (fa f))), (0, .ref (ma 0)), (1, .int (nI f))]) hx hb d_M_truth_6 rfl hl (by decide) rfl (fun ls hl => ?_)
  refine lv_aload_n hx hb d_M_truth_7 rfl (lv_at hl 1 rfl) ?_
  refine va_get (D := D) (ci := 3) (v := .ref (ma 9)) (C := R_M) (T := F_M) (N := 23) hx hb hts in_M hown hK hP 0 rfl rfl 12 (by decide) (hts _ wd_526) (fun _ h9 => h9) rfl d_M_truth_8 ?_
  refine lv_iload_n hx hb d_M_truth_11 rfl (lv_at hl 2 rfl) ?_
  refine n_iald hx hb hK hP 9 0 rfl rfl (i := f) (by omega) (by omega) d_M_truth_12 ?_
  rw [hbj]
  refine lv_istore_n (lv' := [(3, .int (nI j)), (2, .int (nI (fa f))), (0, .ref (ma 0)), (1, .int (nI f))]) hx hb d_M_truth_13 rfl hl (by decide) rfl (fun ls hl => ?_)
  refine lv_aload_n hx hb d_M_truth_14 rfl (lv_at hl 2 rfl) ?_
  refine va_get (D := D) (ci := 3) (v := .ref (ma 7)) (C := R_M) (T := F_M) (N := 23) hx hb hts in_M hown hK hP 0 rfl rfl 10 (by decide) (hts _ wd_524) (fun _ h9 => h9) rfl d_M_truth_15 ?_
  refine lv_iload_n hx hb d_M_truth_18 rfl (lv_at hl 3 rfl) ?_
  refine n_iald hx hb hK hP 7 0 rfl rfl (i := f) (by omega) (by omega) d_M_truth_19 ?_
  rw [hk]
  refine lv_tableIn (tgt := 76) (off := 56) hx hb d_M_truth_20 (by decide +kernel) (by decide +kernel) (by decide +kernel) (by decide) ?_
  refine lv_aload_n hx hb d_M_truth_76 rfl (lv_at hl 2 rfl) ?_
  refine va_get (D := D) (ci := 3) (v := .ref (ma 14)) (C := R_M) (T := F_M) (N := 23) hx hb hts in_M hown hK hP 0 rfl rfl 21 (by decide) (hts _ wd_535) (fun _ h9 => h9) rfl d_M_truth_77 ?_
  refine lv_iload_n hx hb d_M_truth_80 rfl (lv_at hl 1 rfl) ?_
  refine n_iald hx hb hK hP 14 0 rfl rfl (i := fa f) (by omega) (by omega) d_M_truth_81 ?_
  refine lv_aload_n hx hb d_M_truth_82 rfl (lv_at hl 2 rfl) ?_
  refine va_get (D := D) (ci := 3) (v := .ref (ma 14)) (C := R_M) (T := F_M) (N := 23) hx hb hts in_M hown hK hP 0 rfl rfl 21 (by decide) (hts _ wd_535) (fun _ h9 => h9) rfl d_M_truth_83 ?_
  refine lv_iload_n hx hb d_M_truth_86 rfl (lv_at hl 0 rfl) ?_
  refine n_iald hx hb hK hP 14 0 rfl rfl (i := j) (by omega) (by omega) d_M_truth_87 ?_
  refine z_icmp_ne (tgt := 95) hx hb (nI_toInt (by omega)) (nI_toInt (by omega)) d_M_truth_88 (by decide) (fun c_88 => ?_) (fun c_88 => ?_)
  · refine lv_iconst (v := nI 0) hx hb d_M_truth_95 (by decide) ?_
    exact fn_zret hx hb hr hlocks hAe hK hP hD hS (by rw [show truB 0 (fa f) j vl ho tw = false from decide_eq_false (by omega)]; rfl) d_M_truth_96
  · refine lv_iconst (v := nI 1) hx hb d_M_truth_91 (by decide) ?_
    refine lv_goto (tgt := 96) hx hb d_M_truth_92 (by decide) ?_
    exact fn_zret hx hb hr hlocks hAe hK hP hD hS (by rw [show truB 0 (fa f) j vl ho tw = true from decide_eq_true (by omega)]; rfl) d_M_truth_96
set_option maxHeartbeats 4000000 in
set_option maxRecDepth 100000 in
theorem c_M_truth_1 (l : Launch) (D : va_G) (ma : Nat → Nat) (cI cZ : ClassId) (th nv nb nt nf na lv nm : Nat) (vw tk ta : Nat → Nat) (tb tc : Nat → Int32) (tw fk fa : Nat → Nat) (fb : Nat → Int32) (od sd aa am vl : Nat → Nat) (ho : Nat → Bool) (hok : Mok nv nb nt nf na lv nm vw tk ta tb tc tw fk fa fb od sd am vl) (f : Nat) (hf : f < nf) (hk : fk f = 1) (ha : fa f < nt) (j : Nat) (hj : j < nt) (hbj : fb f = nI j)  : Fn l y_M_truth (wk y_M_truth b_M_truth 4 (some .boolean)) rm_M_truth D cls [(cI, .int), (cZ, .boolean)] [.ref (ma 0), .int (nI f)] (mW ma cI cZ th nv nb nt nf na lv nm vw tk ta tb tc tw fk fa fb od sd aa am vl ho) XT (some (.int (bI (truB 1 (fa f) j vl ho tw)))) (mW ma cI cZ th nv nb nt nf na lv nm vw tk ta tb tc tw fk fa fb od sd aa am vl ho) := by
  refine Fn.of (by decide) rfl (Nat.le_of_ble_eq_true rfl) ?_
  intro p e s m below meth c A ls hx hb hml hr hts0 hown hlocks hnm hP hK hD hS hA hAe hX hl
  have hts : ∀ w ∈ lw_ok, w.before _ s = true := fun w h => hts0 w (List.mem_cons_of_mem _ h)
  have hown : s.vm.findClass R_M = some m.cls := hown
  have hP : va_P D cls (mW ma cI cZ th nv nb nt nf na lv nm vw tk ta tb tc tw fk fa fb od sd aa am vl ho) s.heap := hP
  have hl : lv_has ls 4 [(0, .ref (ma 0)), (1, .int (nI f))] := hl
  obtain ⟨o_nv, o_nb, o_nt, o_nf, o_na, o_lv, o_nm, o_vw, o_tw, o_am, o_sd, o_T, o_F, o_od, o_vl⟩ := id hok
  have va := o_vl (fa f)
  have vb := o_vl j
  refine lv_aload_n hx hb d_M_truth_0 rfl (lv_at hl 0 rfl) ?_
  refine va_get (D := D) (ci := 3) (v := .ref (ma 8)) (C := R_M) (T := F_M) (N := 23) hx hb hts in_M hown hK hP 0 rfl rfl 11 (by decide) (hts _ wd_525) (fun _ h9 => h9) rfl d_M_truth_1 ?_
  refine lv_iload_n hx hb d_M_truth_4 rfl (lv_at hl 1 rfl) ?_
  refine n_iald hx hb hK hP 8 0 rfl rfl (i := f) (by omega) (by omega) d_M_truth_5 ?_
  refine lv_istore_n (lv' := [(2, .int (nI (fa f))), (0, .ref (ma 0)), (1, .int (nI f))]) hx hb d_M_truth_6 rfl hl (by decide) rfl (fun ls hl => ?_)
  refine lv_aload_n hx hb d_M_truth_7 rfl (lv_at hl 1 rfl) ?_
  refine va_get (D := D) (ci := 3) (v := .ref (ma 9)) (C := R_M) (T := F_M) (N := 23) hx hb hts in_M hown hK hP 0 rfl rfl 12 (by decide) (hts _ wd_526) (fun _ h9 => h9) rfl d_M_truth_8 ?_
  refine lv_iload_n hx hb d_M_truth_11 rfl (lv_at hl 2 rfl) ?_
  refine n_iald hx hb hK hP 9 0 rfl rfl (i := f) (by omega) (by omega) d_M_truth_12 ?_
  rw [hbj]
  refine lv_istore_n (lv' := [(3, .int (nI j)), (2, .int (nI (fa f))), (0, .ref (ma 0)), (1, .int (nI f))]) hx hb d_M_truth_13 rfl hl (by decide) rfl (fun ls hl => ?_)
  refine lv_aload_n hx hb d_M_truth_14 rfl (lv_at hl 2 rfl) ?_
  refine va_get (D := D) (ci := 3) (v := .ref (ma 7)) (C := R_M) (T := F_M) (N := 23) hx hb hts in_M hown hK hP 0 rfl rfl 10 (by decide) (hts _ wd_524) (fun _ h9 => h9) rfl d_M_truth_15 ?_
  refine lv_iload_n hx hb d_M_truth_18 rfl (lv_at hl 3 rfl) ?_
  refine n_iald hx hb hK hP 7 0 rfl rfl (i := f) (by omega) (by omega) d_M_truth_19 ?_
  rw [hk]
  refine lv_tableIn (tgt := 97) (off := 77) hx hb d_M_truth_20 (by decide +kernel) (by decide +kernel) (by decide +kernel) (by decide) ?_
  refine lv_aload_n hx hb d_M_truth_97 rfl (lv_at hl 2 rfl) ?_
  refine va_get (D := D) (ci := 3) (v := .ref (ma 14)) (C := R_M) (T := F_M) (N := 23) hx hb hts in_M hown hK hP 0 rfl rfl 21 (by decide) (hts _ wd_535) (fun _ h9 => h9) rfl d_M_truth_98 ?_
  refine lv_iload_n hx hb d_M_truth_101 rfl (lv_at hl 1 rfl) ?_
  refine n_iald hx hb hK hP 14 0 rfl rfl (i := fa f) (by omega) (by omega) d_M_truth_102 ?_
  refine lv_aload_n hx hb d_M_truth_103 rfl (lv_at hl 2 rfl) ?_
  refine va_get (D := D) (ci := 3) (v := .ref (ma 14)) (C := R_M) (T := F_M) (N := 23) hx hb hts in_M hown hK hP 0 rfl rfl 21 (by decide) (hts _ wd_535) (fun _ h9 => h9) rfl d_M_truth_104 ?_
  refine lv_iload_n hx hb d_M_truth_107 rfl (lv_at hl 0 rfl) ?_
  refine n_iald hx hb hK hP 14 0 rfl rfl (i := j) (by omega) (by omega) d_M_truth_108 ?_
  refine z_icmp_ge (tgt := 116) hx hb (nI_toInt (by omega)) (nI_toInt (by omega)) d_M_truth_109 (by decide) (fun c_109 => ?_) (fun c_109 => ?_)
  · refine lv_iconst (v := nI 0) hx hb d_M_truth_116 (by decide) ?_
    exact fn_zret hx hb hr hlocks hAe hK hP hD hS (by rw [show truB 1 (fa f) j vl ho tw = false from decide_eq_false (by omega)]; rfl) d_M_truth_117
  · refine lv_iconst (v := nI 1) hx hb d_M_truth_112 (by decide) ?_
    refine lv_goto (tgt := 117) hx hb d_M_truth_113 (by decide) ?_
    exact fn_zret hx hb hr hlocks hAe hK hP hD hS (by rw [show truB 1 (fa f) j vl ho tw = true from decide_eq_true (by omega)]; rfl) d_M_truth_117
set_option maxHeartbeats 4000000 in
set_option maxRecDepth 100000 in
theorem c_M_truth_2 (l : Launch) (D : va_G) (ma : Nat → Nat) (cI cZ : ClassId) (th nv nb nt nf na lv nm : Nat) (vw tk ta : Nat → Nat) (tb tc : Nat → Int32) (tw fk fa : Nat → Nat) (fb : Nat → Int32) (od sd aa am vl : Nat → Nat) (ho : Nat → Bool) (hok : Mok nv nb nt nf na lv nm vw tk ta tb tc tw fk fa fb od sd am vl) (f : Nat) (hf : f < nf) (hk : fk f = 2) (ha : fa f < nt) (j : Nat) (hj : j < nt) (hbj : fb f = nI j)  : Fn l y_M_truth (wk y_M_truth b_M_truth 4 (some .boolean)) rm_M_truth D cls [(cI, .int), (cZ, .boolean)] [.ref (ma 0), .int (nI f)] (mW ma cI cZ th nv nb nt nf na lv nm vw tk ta tb tc tw fk fa fb od sd aa am vl ho) XT (some (.int (bI (truB 2 (fa f) j vl ho tw)))) (mW ma cI cZ th nv nb nt nf na lv nm vw tk ta tb tc tw fk fa fb od sd aa am vl ho) := by
  refine Fn.of (by decide) rfl (Nat.le_of_ble_eq_true rfl) ?_
  intro p e s m below meth c A ls hx hb hml hr hts0 hown hlocks hnm hP hK hD hS hA hAe hX hl
  have hts : ∀ w ∈ lw_ok, w.before _ s = true := fun w h => hts0 w (List.mem_cons_of_mem _ h)
  have hown : s.vm.findClass R_M = some m.cls := hown
  have hP : va_P D cls (mW ma cI cZ th nv nb nt nf na lv nm vw tk ta tb tc tw fk fa fb od sd aa am vl ho) s.heap := hP
  have hl : lv_has ls 4 [(0, .ref (ma 0)), (1, .int (nI f))] := hl
  obtain ⟨o_nv, o_nb, o_nt, o_nf, o_na, o_lv, o_nm, o_vw, o_tw, o_am, o_sd, o_T, o_F, o_od, o_vl⟩ := id hok
  have va := o_vl (fa f)
  have vb := o_vl j
  refine lv_aload_n hx hb d_M_truth_0 rfl (lv_at hl 0 rfl) ?_
  refine va_get (D := D) (ci := 3) (v := .ref (ma 8)) (C := R_M) (T := F_M) (N := 23) hx hb hts in_M hown hK hP 0 rfl rfl 11 (by decide) (hts _ wd_525) (fun _ h9 => h9) rfl d_M_truth_1 ?_
  refine lv_iload_n hx hb d_M_truth_4 rfl (lv_at hl 1 rfl) ?_
  refine n_iald hx hb hK hP 8 0 rfl rfl (i := f) (by omega) (by omega) d_M_truth_5 ?_
  refine lv_istore_n (lv' := [(2, .int (nI (fa f))), (0, .ref (ma 0)), (1, .int (nI f))]) hx hb d_M_truth_6 rfl hl (by decide) rfl (fun ls hl => ?_)
  refine lv_aload_n hx hb d_M_truth_7 rfl (lv_at hl 1 rfl) ?_
  refine va_get (D := D) (ci := 3) (v := .ref (ma 9)) (C := R_M) (T := F_M) (N := 23) hx hb hts in_M hown hK hP 0 rfl rfl 12 (by decide) (hts _ wd_526) (fun _ h9 => h9) rfl d_M_truth_8 ?_
  refine lv_iload_n hx hb d_M_truth_11 rfl (lv_at hl 2 rfl) ?_
  refine n_iald hx hb hK hP 9 0 rfl rfl (i := f) (by omega) (by omega) d_M_truth_12 ?_
  rw [hbj]
  refine lv_istore_n (lv' := [(3, .int (nI j)), (2, .int (nI (fa f))), (0, .ref (ma 0)), (1, .int (nI f))]) hx hb d_M_truth_13 rfl hl (by decide) rfl (fun ls hl => ?_)
  refine lv_aload_n hx hb d_M_truth_14 rfl (lv_at hl 2 rfl) ?_
  refine va_get (D := D) (ci := 3) (v := .ref (ma 7)) (C := R_M) (T := F_M) (N := 23) hx hb hts in_M hown hK hP 0 rfl rfl 10 (by decide) (hts _ wd_524) (fun _ h9 => h9) rfl d_M_truth_15 ?_
  refine lv_iload_n hx hb d_M_truth_18 rfl (lv_at hl 3 rfl) ?_
  refine n_iald hx hb hK hP 7 0 rfl rfl (i := f) (by omega) (by omega) d_M_truth_19 ?_
  rw [hk]
  refine lv_tableIn (tgt := 118) (off := 98) hx hb d_M_truth_20 (by decide +kernel) (by decide +kernel) (by decide +kernel) (by decide) ?_
  refine lv_aload_n hx hb d_M_truth_118 rfl (lv_at hl 2 rfl) ?_
  refine va_get (D := D) (ci := 3) (v := .ref (ma 14)) (C := R_M) (T := F_M) (N := 23) hx hb hts in_M hown hK hP 0 rfl rfl 21 (by decide) (hts _ wd_535) (fun _ h9 => h9) rfl d_M_truth_119 ?_
  refine lv_iload_n hx hb d_M_truth_122 rfl (lv_at hl 1 rfl) ?_
  refine n_iald hx hb hK hP 14 0 rfl rfl (i := fa f) (by omega) (by omega) d_M_truth_123 ?_
  refine lv_aload_n hx hb d_M_truth_124 rfl (lv_at hl 2 rfl) ?_
  refine va_get (D := D) (ci := 3) (v := .ref (ma 14)) (C := R_M) (T := F_M) (N := 23) hx hb hts in_M hown hK hP 0 rfl rfl 21 (by decide) (hts _ wd_535) (fun _ h9 => h9) rfl d_M_truth_125 ?_
  refine lv_iload_n hx hb d_M_truth_128 rfl (lv_at hl 0 rfl) ?_
  refine n_iald hx hb hK hP 14 0 rfl rfl (i := j) (by omega) (by omega) d_M_truth_129 ?_
  refine z_icmp_gt (tgt := 137) hx hb (nI_toInt (by omega)) (nI_toInt (by omega)) d_M_truth_130 (by decide) (fun c_130 => ?_) (fun c_130 => ?_)
  · refine lv_iconst (v := nI 0) hx hb d_M_truth_137 (by decide) ?_
    exact fn_zret hx hb hr hlocks hAe hK hP hD hS (by rw [show truB 2 (fa f) j vl ho tw = false from decide_eq_false (by omega)]; rfl) d_M_truth_138
  · refine lv_iconst (v := nI 1) hx hb d_M_truth_133 (by decide) ?_
    refine lv_goto (tgt := 138) hx hb d_M_truth_134 (by decide) ?_
    exact fn_zret hx hb hr hlocks hAe hK hP hD hS (by rw [show truB 2 (fa f) j vl ho tw = true from decide_eq_true (by omega)]; rfl) d_M_truth_138
set_option maxHeartbeats 4000000 in
set_option maxRecDepth 100000 in
theorem c_M_truth_3 (l : Launch) (D : va_G) (ma : Nat → Nat) (cI cZ : ClassId) (th nv nb nt nf na lv nm : Nat) (vw tk ta : Nat → Nat) (tb tc : Nat → Int32) (tw fk fa : Nat → Nat) (fb : Nat → Int32) (od sd aa am vl : Nat → Nat) (ho : Nat → Bool) (hok : Mok nv nb nt nf na lv nm vw tk ta tb tc tw fk fa fb od sd am vl) (f : Nat) (hf : f < nf) (hk : fk f = 3) (ha : fa f < nt) (j : Nat) (hj : j < nt) (hbj : fb f = nI j)  : Fn l y_M_truth (wk y_M_truth b_M_truth 4 (some .boolean)) rm_M_truth D cls [(cI, .int), (cZ, .boolean)] [.ref (ma 0), .int (nI f)] (mW ma cI cZ th nv nb nt nf na lv nm vw tk ta tb tc tw fk fa fb od sd aa am vl ho) XT (some (.int (bI (truB 3 (fa f) j vl ho tw)))) (mW ma cI cZ th nv nb nt nf na lv nm vw tk ta tb tc tw fk fa fb od sd aa am vl ho) := by
  refine Fn.of (by decide) rfl (Nat.le_of_ble_eq_true rfl) ?_
  intro p e s m below meth c A ls hx hb hml hr hts0 hown hlocks hnm hP hK hD hS hA hAe hX hl
  have hts : ∀ w ∈ lw_ok, w.before _ s = true := fun w h => hts0 w (List.mem_cons_of_mem _ h)
  have hown : s.vm.findClass R_M = some m.cls := hown
  have hP : va_P D cls (mW ma cI cZ th nv nb nt nf na lv nm vw tk ta tb tc tw fk fa fb od sd aa am vl ho) s.heap := hP
  have hl : lv_has ls 4 [(0, .ref (ma 0)), (1, .int (nI f))] := hl
  obtain ⟨o_nv, o_nb, o_nt, o_nf, o_na, o_lv, o_nm, o_vw, o_tw, o_am, o_sd, o_T, o_F, o_od, o_vl⟩ := id hok
  have va := o_vl (fa f)
  have vb := o_vl j
  have oa := o_tw (fa f) ha
  have ob := o_tw j hj
  refine lv_aload_n hx hb d_M_truth_0 rfl (lv_at hl 0 rfl) ?_
  refine va_get (D := D) (ci := 3) (v := .ref (ma 8)) (C := R_M) (T := F_M) (N := 23) hx hb hts in_M hown hK hP 0 rfl rfl 11 (by decide) (hts _ wd_525) (fun _ h9 => h9) rfl d_M_truth_1 ?_
  refine lv_iload_n hx hb d_M_truth_4 rfl (lv_at hl 1 rfl) ?_
  refine n_iald hx hb hK hP 8 0 rfl rfl (i := f) (by omega) (by omega) d_M_truth_5 ?_
  refine lv_istore_n (lv' := [(2, .int (nI (fa f))), (0, .ref (ma 0)), (1, .int (nI f))]) hx hb d_M_truth_6 rfl hl (by decide) rfl (fun ls hl => ?_)
  refine lv_aload_n hx hb d_M_truth_7 rfl (lv_at hl 1 rfl) ?_
  refine va_get (D := D) (ci := 3) (v := .ref (ma 9)) (C := R_M) (T := F_M) (N := 23) hx hb hts in_M hown hK hP 0 rfl rfl 12 (by decide) (hts _ wd_526) (fun _ h9 => h9) rfl d_M_truth_8 ?_
  refine lv_iload_n hx hb d_M_truth_11 rfl (lv_at hl 2 rfl) ?_
  refine n_iald hx hb hK hP 9 0 rfl rfl (i := f) (by omega) (by omega) d_M_truth_12 ?_
  rw [hbj]
  refine lv_istore_n (lv' := [(3, .int (nI j)), (2, .int (nI (fa f))), (0, .ref (ma 0)), (1, .int (nI f))]) hx hb d_M_truth_13 rfl hl (by decide) rfl (fun ls hl => ?_)
  refine lv_aload_n hx hb d_M_truth_14 rfl (lv_at hl 2 rfl) ?_
  refine va_get (D := D) (ci := 3) (v := .ref (ma 7)) (C := R_M) (T := F_M) (N := 23) hx hb hts in_M hown hK hP 0 rfl rfl 10 (by decide) (hts _ wd_524) (fun _ h9 => h9) rfl d_M_truth_15 ?_
  refine lv_iload_n hx hb d_M_truth_18 rfl (lv_at hl 3 rfl) ?_
  refine n_iald hx hb hK hP 7 0 rfl rfl (i := f) (by omega) (by omega) d_M_truth_19 ?_
  rw [hk]
  refine lv_tableIn (tgt := 139) (off := 119) hx hb d_M_truth_20 (by decide +kernel) (by decide +kernel) (by decide +kernel) (by decide) ?_
  refine lv_aload_n hx hb d_M_truth_139 rfl (lv_at hl 2 rfl) ?_
  refine va_get (D := D) (ci := 3) (v := .ref (ma 14)) (C := R_M) (T := F_M) (N := 23) hx hb hts in_M hown hK hP 0 rfl rfl 21 (by decide) (hts _ wd_535) (fun _ h9 => h9) rfl d_M_truth_140 ?_
  refine lv_iload_n hx hb d_M_truth_143 rfl (lv_at hl 1 rfl) ?_
  refine n_iald hx hb hK hP 14 0 rfl rfl (i := fa f) (by omega) (by omega) d_M_truth_144 ?_
  refine lv_aload_n hx hb d_M_truth_145 rfl (lv_at hl 2 rfl) ?_
  refine va_get (D := D) (ci := 3) (v := .ref (ma 6)) (C := R_M) (T := F_M) (N := 23) hx hb hts in_M hown hK hP 0 rfl rfl 8 (by decide) (hts _ wd_522) (fun _ h9 => h9) rfl d_M_truth_146 ?_
  refine lv_iload_n hx hb d_M_truth_149 rfl (lv_at hl 1 rfl) ?_
  refine n_iald hx hb hK hP 6 0 rfl rfl (i := fa f) (by omega) (by omega) d_M_truth_150 ?_
  refine fn_S (ws' := (mW ma cI cZ th nv nb nt nf na lv nm vw tk ta tb tc tw fk fa fb od sd aa am vl ho)) (w1 := (nilW)) (wc := (nilW)) (wr := [(ma 0, .inr (3, [.int (nI th), .ref (ma 1), .int (nI nv), .int (nI nb), .ref (ma 2), .ref (ma 3), .ref (ma 4), .ref (ma 5), .ref (ma 6), .int (nI nt), .ref (ma 7), .ref (ma 8), .ref (ma 9), .int (nI nf), .ref (ma 10), .ref (ma 11), .ref (ma 12), .int (nI na), .int (nI lv), .ref (ma 13), .int (nI nm), .ref (ma 14), .ref (ma 15)])), (ma 1, .inl (cI, 6, .inl (fun j => nI (vw j)))), (ma 2, .inl (cI, 50, .inl (fun j => nI (tk j)))), (ma 3, .inl (cI, 50, .inl (fun j => nI (ta j)))), (ma 4, .inl (cI, 50, .inl tb)), (ma 5, .inl (cI, 50, .inl tc)), (ma 6, .inl (cI, 50, .inl (fun j => nI (tw j)))), (ma 7, .inl (cI, 50, .inl (fun j => nI (fk j)))), (ma 8, .inl (cI, 50, .inl (fun j => nI (fa j)))), (ma 9, .inl (cI, 50, .inl fb)), (ma 10, .inl (cI, 100, .inl (fun j => nI (od j)))), (ma 11, .inl (cI, 30, .inl (fun j => nI (sd j)))), (ma 12, .inl (cI, 30, .inl (fun j => nI (aa j)))), (ma 13, .inl (cI, 8, .inl (fun j => nI (am j)))), (ma 14, .inl (cI, 50, .inl (fun j => nI (vl j)))), (ma 15, .inl (cZ, 50, .inl (fun j => bI (ho j))))]) ⟨hx, hb, hml, hown, hts⟩ (c_M_signed l D (vl (fa f)) (tw (fa f)) (by omega) (by omega) (by omega)) ⟨callB_of 2 hts (gW wd_662) rfl rfl rfl (hts _ wd_4) (hts _ wd_660) hd_M_signed ⟨Nat.le_of_ble_eq_true rfl, Nat.le_of_ble_eq_true rfl⟩, hts _ wd_661⟩ XT_ok (fun _ _ _ => trivial) hK hP hD hS hA [] [] [0, 1, 2, 3, 4, 5, 6, 7, 8, 9, 10, 11, 12, 13, 14, 15] [0, 1, 2, 3, 4, 5, 6, 7, 8, 9, 10, 11, 12, 13, 14, 15] rfl rfl rfl rfl rfl (by decide) rfl rfl rfl hl.1 rfl (Nat.le_of_ble_eq_true rfl) d_M_truth_151 ⟨Nat.zero_le _, Nat.zero_le _⟩ (st1 := [.int (sgI (vl (fa f)) (tw (fa f)))]) rfl (fun H locs hP hD hS => ?_)
  refine lv_aload_n hx hb d_M_truth_154 rfl (lv_at hl 2 rfl) ?_
  refine va_get (D := D) (ci := 3) (v := .ref (ma 14)) (C := R_M) (T := F_M) (N := 23) hx hb hts in_M hown hK hP 0 rfl rfl 21 (by decide) (hts _ wd_535) (fun _ h9 => h9) rfl d_M_truth_155 ?_
  refine lv_iload_n hx hb d_M_truth_158 rfl (lv_at hl 0 rfl) ?_
  refine n_iald hx hb hK hP 14 0 rfl rfl (i := j) (by omega) (by omega) d_M_truth_159 ?_
  refine lv_aload_n hx hb d_M_truth_160 rfl (lv_at hl 2 rfl) ?_
  refine va_get (D := D) (ci := 3) (v := .ref (ma 6)) (C := R_M) (T := F_M) (N := 23) hx hb hts in_M hown hK hP 0 rfl rfl 8 (by decide) (hts _ wd_522) (fun _ h9 => h9) rfl d_M_truth_161 ?_
  refine lv_iload_n hx hb d_M_truth_164 rfl (lv_at hl 0 rfl) ?_
  refine n_iald hx hb hK hP 6 0 rfl rfl (i := j) (by omega) (by omega) d_M_truth_165 ?_
  refine fn_S (ws' := (mW ma cI cZ th nv nb nt nf na lv nm vw tk ta tb tc tw fk fa fb od sd aa am vl ho)) (w1 := (nilW)) (wc := (nilW)) (wr := [(ma 0, .inr (3, [.int (nI th), .ref (ma 1), .int (nI nv), .int (nI nb), .ref (ma 2), .ref (ma 3), .ref (ma 4), .ref (ma 5), .ref (ma 6), .int (nI nt), .ref (ma 7), .ref (ma 8), .ref (ma 9), .int (nI nf), .ref (ma 10), .ref (ma 11), .ref (ma 12), .int (nI na), .int (nI lv), .ref (ma 13), .int (nI nm), .ref (ma 14), .ref (ma 15)])), (ma 1, .inl (cI, 6, .inl (fun j => nI (vw j)))), (ma 2, .inl (cI, 50, .inl (fun j => nI (tk j)))), (ma 3, .inl (cI, 50, .inl (fun j => nI (ta j)))), (ma 4, .inl (cI, 50, .inl tb)), (ma 5, .inl (cI, 50, .inl tc)), (ma 6, .inl (cI, 50, .inl (fun j => nI (tw j)))), (ma 7, .inl (cI, 50, .inl (fun j => nI (fk j)))), (ma 8, .inl (cI, 50, .inl (fun j => nI (fa j)))), (ma 9, .inl (cI, 50, .inl fb)), (ma 10, .inl (cI, 100, .inl (fun j => nI (od j)))), (ma 11, .inl (cI, 30, .inl (fun j => nI (sd j)))), (ma 12, .inl (cI, 30, .inl (fun j => nI (aa j)))), (ma 13, .inl (cI, 8, .inl (fun j => nI (am j)))), (ma 14, .inl (cI, 50, .inl (fun j => nI (vl j)))), (ma 15, .inl (cZ, 50, .inl (fun j => bI (ho j))))]) ⟨hx, hb, hml, hown, hts⟩ (c_M_signed l D (vl j) (tw j) (by omega) (by omega) (by omega)) ⟨callB_of 2 hts (gW wd_662) rfl rfl rfl (hts _ wd_4) (hts _ wd_660) hd_M_signed ⟨Nat.le_of_ble_eq_true rfl, Nat.le_of_ble_eq_true rfl⟩, hts _ wd_661⟩ XT_ok (fun _ _ _ => trivial) hK hP hD hS hA [] [] [0, 1, 2, 3, 4, 5, 6, 7, 8, 9, 10, 11, 12, 13, 14, 15] [0, 1, 2, 3, 4, 5, 6, 7, 8, 9, 10, 11, 12, 13, 14, 15] rfl rfl rfl rfl rfl (by decide) rfl rfl rfl hl.1 rfl (Nat.le_of_ble_eq_true rfl) d_M_truth_166 ⟨Nat.zero_le _, Nat.zero_le _⟩ (st1 := [.int (sgI (vl j) (tw j)), .int (sgI (vl (fa f)) (tw (fa f)))]) rfl (fun H locs hP hD hS => ?_)
  refine z_icmp_ge (tgt := 176) hx hb rfl rfl d_M_truth_169 (by decide) (fun c_169 => ?_) (fun c_169 => ?_)
  · refine lv_iconst (v := nI 0) hx hb d_M_truth_176 (by decide) ?_
    exact fn_zret hx hb hr hlocks hAe hK hP hD hS (by rw [show truB 3 (fa f) j vl ho tw = false from decide_eq_false (by omega)]; rfl) d_M_truth_177
  · refine lv_iconst (v := nI 1) hx hb d_M_truth_172 (by decide) ?_
    refine lv_goto (tgt := 177) hx hb d_M_truth_173 (by decide) ?_
    exact fn_zret hx hb hr hlocks hAe hK hP hD hS (by rw [show truB 3 (fa f) j vl ho tw = true from decide_eq_true (by omega)]; rfl) d_M_truth_177
set_option maxHeartbeats 4000000 in
set_option maxRecDepth 100000 in
theorem c_M_truth_4 (l : Launch) (D : va_G) (ma : Nat → Nat) (cI cZ : ClassId) (th nv nb nt nf na lv nm : Nat) (vw tk ta : Nat → Nat) (tb tc : Nat → Int32) (tw fk fa : Nat → Nat) (fb : Nat → Int32) (od sd aa am vl : Nat → Nat) (ho : Nat → Bool) (hok : Mok nv nb nt nf na lv nm vw tk ta tb tc tw fk fa fb od sd am vl) (f : Nat) (hf : f < nf) (hk : fk f = 4) (ha : fa f < nt) (j : Nat) (hj : j < nt) (hbj : fb f = nI j)  : Fn l y_M_truth (wk y_M_truth b_M_truth 4 (some .boolean)) rm_M_truth D cls [(cI, .int), (cZ, .boolean)] [.ref (ma 0), .int (nI f)] (mW ma cI cZ th nv nb nt nf na lv nm vw tk ta tb tc tw fk fa fb od sd aa am vl ho) XT (some (.int (bI (truB 4 (fa f) j vl ho tw)))) (mW ma cI cZ th nv nb nt nf na lv nm vw tk ta tb tc tw fk fa fb od sd aa am vl ho) := by
  refine Fn.of (by decide) rfl (Nat.le_of_ble_eq_true rfl) ?_
  intro p e s m below meth c A ls hx hb hml hr hts0 hown hlocks hnm hP hK hD hS hA hAe hX hl
  have hts : ∀ w ∈ lw_ok, w.before _ s = true := fun w h => hts0 w (List.mem_cons_of_mem _ h)
  have hown : s.vm.findClass R_M = some m.cls := hown
  have hP : va_P D cls (mW ma cI cZ th nv nb nt nf na lv nm vw tk ta tb tc tw fk fa fb od sd aa am vl ho) s.heap := hP
  have hl : lv_has ls 4 [(0, .ref (ma 0)), (1, .int (nI f))] := hl
  obtain ⟨o_nv, o_nb, o_nt, o_nf, o_na, o_lv, o_nm, o_vw, o_tw, o_am, o_sd, o_T, o_F, o_od, o_vl⟩ := id hok
  have va := o_vl (fa f)
  have vb := o_vl j
  have oa := o_tw (fa f) ha
  have ob := o_tw j hj
  refine lv_aload_n hx hb d_M_truth_0 rfl (lv_at hl 0 rfl) ?_
  refine va_get (D := D) (ci := 3) (v := .ref (ma 8)) (C := R_M) (T := F_M) (N := 23) hx hb hts in_M hown hK hP 0 rfl rfl 11 (by decide) (hts _ wd_525) (fun _ h9 => h9) rfl d_M_truth_1 ?_
  refine lv_iload_n hx hb d_M_truth_4 rfl (lv_at hl 1 rfl) ?_
  refine n_iald hx hb hK hP 8 0 rfl rfl (i := f) (by omega) (by omega) d_M_truth_5 ?_
  refine lv_istore_n (lv' := [(2, .int (nI (fa f))), (0, .ref (ma 0)), (1, .int (nI f))]) hx hb d_M_truth_6 rfl hl (by decide) rfl (fun ls hl => ?_)
  refine lv_aload_n hx hb d_M_truth_7 rfl (lv_at hl 1 rfl) ?_
  refine va_get (D := D) (ci := 3) (v := .ref (ma 9)) (C := R_M) (T := F_M) (N := 23) hx hb hts in_M hown hK hP 0 rfl rfl 12 (by decide) (hts _ wd_526) (fun _ h9 => h9) rfl d_M_truth_8 ?_
  refine lv_iload_n hx hb d_M_truth_11 rfl (lv_at hl 2 rfl) ?_
  refine n_iald hx hb hK hP 9 0 rfl rfl (i := f) (by omega) (by omega) d_M_truth_12 ?_
  rw [hbj]
  refine lv_istore_n (lv' := [(3, .int (nI j)), (2, .int (nI (fa f))), (0, .ref (ma 0)), (1, .int (nI f))]) hx hb d_M_truth_13 rfl hl (by decide) rfl (fun ls hl => ?_)
  refine lv_aload_n hx hb d_M_truth_14 rfl (lv_at hl 2 rfl) ?_
  refine va_get (D := D) (ci := 3) (v := .ref (ma 7)) (C := R_M) (T := F_M) (N := 23) hx hb hts in_M hown hK hP 0 rfl rfl 10 (by decide) (hts _ wd_524) (fun _ h9 => h9) rfl d_M_truth_15 ?_
  refine lv_iload_n hx hb d_M_truth_18 rfl (lv_at hl 3 rfl) ?_
  refine n_iald hx hb hK hP 7 0 rfl rfl (i := f) (by omega) (by omega) d_M_truth_19 ?_
  rw [hk]
  refine lv_tableIn (tgt := 178) (off := 158) hx hb d_M_truth_20 (by decide +kernel) (by decide +kernel) (by decide +kernel) (by decide) ?_
  refine lv_aload_n hx hb d_M_truth_178 rfl (lv_at hl 2 rfl) ?_
  refine va_get (D := D) (ci := 3) (v := .ref (ma 14)) (C := R_M) (T := F_M) (N := 23) hx hb hts in_M hown hK hP 0 rfl rfl 21 (by decide) (hts _ wd_535) (fun _ h9 => h9) rfl d_M_truth_179 ?_
  refine lv_iload_n hx hb d_M_truth_182 rfl (lv_at hl 1 rfl) ?_
  refine n_iald hx hb hK hP 14 0 rfl rfl (i := fa f) (by omega) (by omega) d_M_truth_183 ?_
  refine lv_aload_n hx hb d_M_truth_184 rfl (lv_at hl 2 rfl) ?_
  refine va_get (D := D) (ci := 3) (v := .ref (ma 6)) (C := R_M) (T := F_M) (N := 23) hx hb hts in_M hown hK hP 0 rfl rfl 8 (by decide) (hts _ wd_522) (fun _ h9 => h9) rfl d_M_truth_185 ?_
  refine lv_iload_n hx hb d_M_truth_188 rfl (lv_at hl 1 rfl) ?_
  refine n_iald hx hb hK hP 6 0 rfl rfl (i := fa f) (by omega) (by omega) d_M_truth_189 ?_
  refine fn_S (ws' := (mW ma cI cZ th nv nb nt nf na lv nm vw tk ta tb tc tw fk fa fb od sd aa am vl ho)) (w1 := (nilW)) (wc := (nilW)) (wr := [(ma 0, .inr (3, [.int (nI th), .ref (ma 1), .int (nI nv), .int (nI nb), .ref (ma 2), .ref (ma 3), .ref (ma 4), .ref (ma 5), .ref (ma 6), .int (nI nt), .ref (ma 7), .ref (ma 8), .ref (ma 9), .int (nI nf), .ref (ma 10), .ref (ma 11), .ref (ma 12), .int (nI na), .int (nI lv), .ref (ma 13), .int (nI nm), .ref (ma 14), .ref (ma 15)])), (ma 1, .inl (cI, 6, .inl (fun j => nI (vw j)))), (ma 2, .inl (cI, 50, .inl (fun j => nI (tk j)))), (ma 3, .inl (cI, 50, .inl (fun j => nI (ta j)))), (ma 4, .inl (cI, 50, .inl tb)), (ma 5, .inl (cI, 50, .inl tc)), (ma 6, .inl (cI, 50, .inl (fun j => nI (tw j)))), (ma 7, .inl (cI, 50, .inl (fun j => nI (fk j)))), (ma 8, .inl (cI, 50, .inl (fun j => nI (fa j)))), (ma 9, .inl (cI, 50, .inl fb)), (ma 10, .inl (cI, 100, .inl (fun j => nI (od j)))), (ma 11, .inl (cI, 30, .inl (fun j => nI (sd j)))), (ma 12, .inl (cI, 30, .inl (fun j => nI (aa j)))), (ma 13, .inl (cI, 8, .inl (fun j => nI (am j)))), (ma 14, .inl (cI, 50, .inl (fun j => nI (vl j)))), (ma 15, .inl (cZ, 50, .inl (fun j => bI (ho j))))]) ⟨hx, hb, hml, hown, hts⟩ (c_M_signed l D (vl (fa f)) (tw (fa f)) (by omega) (by omega) (by omega)) ⟨callB_of 2 hts (gW wd_662) rfl rfl rfl (hts _ wd_4) (hts _ wd_660) hd_M_signed ⟨Nat.le_of_ble_eq_true rfl, Nat.le_of_ble_eq_true rfl⟩, hts _ wd_661⟩ XT_ok (fun _ _ _ => trivial) hK hP hD hS hA [] [] [0, 1, 2, 3, 4, 5, 6, 7, 8, 9, 10, 11, 12, 13, 14, 15] [0, 1, 2, 3, 4, 5, 6, 7, 8, 9, 10, 11, 12, 13, 14, 15] rfl rfl rfl rfl rfl (by decide) rfl rfl rfl hl.1 rfl (Nat.le_of_ble_eq_true rfl) d_M_truth_190 ⟨Nat.zero_le _, Nat.zero_le _⟩ (st1 := [.int (sgI (vl (fa f)) (tw (fa f)))]) rfl (fun H locs hP hD hS => ?_)
  refine lv_aload_n hx hb d_M_truth_193 rfl (lv_at hl 2 rfl) ?_
  refine va_get (D := D) (ci := 3) (v := .ref (ma 14)) (C := R_M) (T := F_M) (N := 23) hx hb hts in_M hown hK hP 0 rfl rfl 21 (by decide) (hts _ wd_535) (fun _ h9 => h9) rfl d_M_truth_194 ?_
  refine lv_iload_n hx hb d_M_truth_197 rfl (lv_at hl 0 rfl) ?_
  refine n_iald hx hb hK hP 14 0 rfl rfl (i := j) (by omega) (by omega) d_M_truth_198 ?_
  refine lv_aload_n hx hb d_M_truth_199 rfl (lv_at hl 2 rfl) ?_
  refine va_get (D := D) (ci := 3) (v := .ref (ma 6)) (C := R_M) (T := F_M) (N := 23) hx hb hts in_M hown hK hP 0 rfl rfl 8 (by decide) (hts _ wd_522) (fun _ h9 => h9) rfl d_M_truth_200 ?_
  refine lv_iload_n hx hb d_M_truth_203 rfl (lv_at hl 0 rfl) ?_
  refine n_iald hx hb hK hP 6 0 rfl rfl (i := j) (by omega) (by omega) d_M_truth_204 ?_
  refine fn_S (ws' := (mW ma cI cZ th nv nb nt nf na lv nm vw tk ta tb tc tw fk fa fb od sd aa am vl ho)) (w1 := (nilW)) (wc := (nilW)) (wr := [(ma 0, .inr (3, [.int (nI th), .ref (ma 1), .int (nI nv), .int (nI nb), .ref (ma 2), .ref (ma 3), .ref (ma 4), .ref (ma 5), .ref (ma 6), .int (nI nt), .ref (ma 7), .ref (ma 8), .ref (ma 9), .int (nI nf), .ref (ma 10), .ref (ma 11), .ref (ma 12), .int (nI na), .int (nI lv), .ref (ma 13), .int (nI nm), .ref (ma 14), .ref (ma 15)])), (ma 1, .inl (cI, 6, .inl (fun j => nI (vw j)))), (ma 2, .inl (cI, 50, .inl (fun j => nI (tk j)))), (ma 3, .inl (cI, 50, .inl (fun j => nI (ta j)))), (ma 4, .inl (cI, 50, .inl tb)), (ma 5, .inl (cI, 50, .inl tc)), (ma 6, .inl (cI, 50, .inl (fun j => nI (tw j)))), (ma 7, .inl (cI, 50, .inl (fun j => nI (fk j)))), (ma 8, .inl (cI, 50, .inl (fun j => nI (fa j)))), (ma 9, .inl (cI, 50, .inl fb)), (ma 10, .inl (cI, 100, .inl (fun j => nI (od j)))), (ma 11, .inl (cI, 30, .inl (fun j => nI (sd j)))), (ma 12, .inl (cI, 30, .inl (fun j => nI (aa j)))), (ma 13, .inl (cI, 8, .inl (fun j => nI (am j)))), (ma 14, .inl (cI, 50, .inl (fun j => nI (vl j)))), (ma 15, .inl (cZ, 50, .inl (fun j => bI (ho j))))]) ⟨hx, hb, hml, hown, hts⟩ (c_M_signed l D (vl j) (tw j) (by omega) (by omega) (by omega)) ⟨callB_of 2 hts (gW wd_662) rfl rfl rfl (hts _ wd_4) (hts _ wd_660) hd_M_signed ⟨Nat.le_of_ble_eq_true rfl, Nat.le_of_ble_eq_true rfl⟩, hts _ wd_661⟩ XT_ok (fun _ _ _ => trivial) hK hP hD hS hA [] [] [0, 1, 2, 3, 4, 5, 6, 7, 8, 9, 10, 11, 12, 13, 14, 15] [0, 1, 2, 3, 4, 5, 6, 7, 8, 9, 10, 11, 12, 13, 14, 15] rfl rfl rfl rfl rfl (by decide) rfl rfl rfl hl.1 rfl (Nat.le_of_ble_eq_true rfl) d_M_truth_205 ⟨Nat.zero_le _, Nat.zero_le _⟩ (st1 := [.int (sgI (vl j) (tw j)), .int (sgI (vl (fa f)) (tw (fa f)))]) rfl (fun H locs hP hD hS => ?_)
  refine z_icmp_gt (tgt := 215) hx hb rfl rfl d_M_truth_208 (by decide) (fun c_208 => ?_) (fun c_208 => ?_)
  · refine lv_iconst (v := nI 0) hx hb d_M_truth_215 (by decide) ?_
    exact fn_zret hx hb hr hlocks hAe hK hP hD hS (by rw [show truB 4 (fa f) j vl ho tw = false from decide_eq_false (by omega)]; rfl) d_M_truth_216
  · refine lv_iconst (v := nI 1) hx hb d_M_truth_211 (by decide) ?_
    refine lv_goto (tgt := 216) hx hb d_M_truth_212 (by decide) ?_
    exact fn_zret hx hb hr hlocks hAe hK hP hD hS (by rw [show truB 4 (fa f) j vl ho tw = true from decide_eq_true (by omega)]; rfl) d_M_truth_216
set_option maxHeartbeats 4000000 in
set_option maxRecDepth 100000 in
theorem c_M_truth_5 (l : Launch) (D : va_G) (ma : Nat → Nat) (cI cZ : ClassId) (th nv nb nt nf na lv nm : Nat) (vw tk ta : Nat → Nat) (tb tc : Nat → Int32) (tw fk fa : Nat → Nat) (fb : Nat → Int32) (od sd aa am vl : Nat → Nat) (ho : Nat → Bool) (hok : Mok nv nb nt nf na lv nm vw tk ta tb tc tw fk fa fb od sd am vl) (f : Nat) (hf : f < nf) (hk : fk f = 5) (ha : fa f < nt) (j : Nat) (hj : j < 4) (hbj : fb f = nI j)  : Fn l y_M_truth (wk y_M_truth b_M_truth 4 (some .boolean)) rm_M_truth D cls [(cI, .int), (cZ, .boolean)] [.ref (ma 0), .int (nI f)] (mW ma cI cZ th nv nb nt nf na lv nm vw tk ta tb tc tw fk fa fb od sd aa am vl ho) XT (some (.int (bI (truB 5 (fa f) j vl ho tw)))) (mW ma cI cZ th nv nb nt nf na lv nm vw tk ta tb tc tw fk fa fb od sd aa am vl ho) := by
  refine Fn.of (by decide) rfl (Nat.le_of_ble_eq_true rfl) ?_
  intro p e s m below meth c A ls hx hb hml hr hts0 hown hlocks hnm hP hK hD hS hA hAe hX hl
  have hts : ∀ w ∈ lw_ok, w.before _ s = true := fun w h => hts0 w (List.mem_cons_of_mem _ h)
  have hown : s.vm.findClass R_M = some m.cls := hown
  have hP : va_P D cls (mW ma cI cZ th nv nb nt nf na lv nm vw tk ta tb tc tw fk fa fb od sd aa am vl ho) s.heap := hP
  have hl : lv_has ls 4 [(0, .ref (ma 0)), (1, .int (nI f))] := hl
  obtain ⟨o_nv, o_nb, o_nt, o_nf, o_na, o_lv, o_nm, o_vw, o_tw, o_am, o_sd, o_T, o_F, o_od, o_vl⟩ := id hok
  have va := o_vl (fa f)
  refine lv_aload_n hx hb d_M_truth_0 rfl (lv_at hl 0 rfl) ?_
  refine va_get (D := D) (ci := 3) (v := .ref (ma 8)) (C := R_M) (T := F_M) (N := 23) hx hb hts in_M hown hK hP 0 rfl rfl 11 (by decide) (hts _ wd_525) (fun _ h9 => h9) rfl d_M_truth_1 ?_
  refine lv_iload_n hx hb d_M_truth_4 rfl (lv_at hl 1 rfl) ?_
  refine n_iald hx hb hK hP 8 0 rfl rfl (i := f) (by omega) (by omega) d_M_truth_5 ?_
  refine lv_istore_n (lv' := [(2, .int (nI (fa f))), (0, .ref (ma 0)), (1, .int (nI f))]) hx hb d_M_truth_6 rfl hl (by decide) rfl (fun ls hl => ?_)
  refine lv_aload_n hx hb d_M_truth_7 rfl (lv_at hl 1 rfl) ?_
  refine va_get (D := D) (ci := 3) (v := .ref (ma 9)) (C := R_M) (T := F_M) (N := 23) hx hb hts in_M hown hK hP 0 rfl rfl 12 (by decide) (hts _ wd_526) (fun _ h9 => h9) rfl d_M_truth_8 ?_
  refine lv_iload_n hx hb d_M_truth_11 rfl (lv_at hl 2 rfl) ?_
  refine n_iald hx hb hK hP 9 0 rfl rfl (i := f) (by omega) (by omega) d_M_truth_12 ?_
  rw [hbj]
  refine lv_istore_n (lv' := [(3, .int (nI j)), (2, .int (nI (fa f))), (0, .ref (ma 0)), (1, .int (nI f))]) hx hb d_M_truth_13 rfl hl (by decide) rfl (fun ls hl => ?_)
  refine lv_aload_n hx hb d_M_truth_14 rfl (lv_at hl 2 rfl) ?_
  refine va_get (D := D) (ci := 3) (v := .ref (ma 7)) (C := R_M) (T := F_M) (N := 23) hx hb hts in_M hown hK hP 0 rfl rfl 10 (by decide) (hts _ wd_524) (fun _ h9 => h9) rfl d_M_truth_15 ?_
  refine lv_iload_n hx hb d_M_truth_18 rfl (lv_at hl 3 rfl) ?_
  refine n_iald hx hb hK hP 7 0 rfl rfl (i := f) (by omega) (by omega) d_M_truth_19 ?_
  rw [hk]
  refine lv_tableIn (tgt := 217) (off := 197) hx hb d_M_truth_20 (by decide +kernel) (by decide +kernel) (by decide +kernel) (by decide) ?_
  refine lv_aload_n hx hb d_M_truth_217 rfl (lv_at hl 2 rfl) ?_
  refine va_get (D := D) (ci := 3) (v := .ref (ma 14)) (C := R_M) (T := F_M) (N := 23) hx hb hts in_M hown hK hP 0 rfl rfl 21 (by decide) (hts _ wd_535) (fun _ h9 => h9) rfl d_M_truth_218 ?_
  refine lv_iload_n hx hb d_M_truth_221 rfl (lv_at hl 1 rfl) ?_
  refine n_iald hx hb hK hP 14 0 rfl rfl (i := fa f) (by omega) (by omega) d_M_truth_222 ?_
  refine lv_iload_n hx hb d_M_truth_223 rfl (lv_at hl 0 rfl) ?_
  refine n_shr hx hb (by omega) (by omega) d_M_truth_224 ?_
  refine lv_iconst (v := nI 1) hx hb d_M_truth_225 (by decide) ?_
  refine n_and1 hx hb d_M_truth_226 ?_
  refine lv_iconst (v := nI 1) hx hb d_M_truth_227 (by decide) ?_
  refine z_icmp_ne (tgt := 235) hx hb (nI_toInt (by omega)) (nI_toInt (by omega)) d_M_truth_228 (by decide) (fun c_228 => ?_) (fun c_228 => ?_)
  · refine lv_iconst (v := nI 0) hx hb d_M_truth_235 (by decide) ?_
    exact fn_zret hx hb hr hlocks hAe hK hP hD hS (by rw [show truB 5 (fa f) j vl ho tw = false from decide_eq_false (by omega)]; rfl) d_M_truth_236
  · refine lv_iconst (v := nI 1) hx hb d_M_truth_231 (by decide) ?_
    refine lv_goto (tgt := 236) hx hb d_M_truth_232 (by decide) ?_
    exact fn_zret hx hb hr hlocks hAe hK hP hD hS (by rw [show truB 5 (fa f) j vl ho tw = true from decide_eq_true (by omega)]; rfl) d_M_truth_236
set_option maxHeartbeats 4000000 in
set_option maxRecDepth 100000 in
theorem c_M_truth_6 (l : Launch) (D : va_G) (ma : Nat → Nat) (cI cZ : ClassId) (th nv nb nt nf na lv nm : Nat) (vw tk ta : Nat → Nat) (tb tc : Nat → Int32) (tw fk fa : Nat → Nat) (fb : Nat → Int32) (od sd aa am vl : Nat → Nat) (ho : Nat → Bool) (hok : Mok nv nb nt nf na lv nm vw tk ta tb tc tw fk fa fb od sd am vl) (f : Nat) (hf : f < nf) (hk : fk f = 6) (ha : fa f < nf) (kb0 : Nat) : Fn l y_M_truth (wk y_M_truth b_M_truth 4 (some .boolean)) rm_M_truth D cls [(cI, .int), (cZ, .boolean)] [.ref (ma 0), .int (nI f)] (mW ma cI cZ th nv nb nt nf na lv nm vw tk ta tb tc tw fk fa fb od sd aa am vl ho) XT (some (.int (bI (truB 6 (fa f) kb0 vl ho tw)))) (mW ma cI cZ th nv nb nt nf na lv nm vw tk ta tb tc tw fk fa fb od sd aa am vl ho) := by
  refine Fn.of (by decide) rfl (Nat.le_of_ble_eq_true rfl) ?_
  intro p e s m below meth c A ls hx hb hml hr hts0 hown hlocks hnm hP hK hD hS hA hAe hX hl
  have hts : ∀ w ∈ lw_ok, w.before _ s = true := fun w h => hts0 w (List.mem_cons_of_mem _ h)
  have hown : s.vm.findClass R_M = some m.cls := hown
  have hP : va_P D cls (mW ma cI cZ th nv nb nt nf na lv nm vw tk ta tb tc tw fk fa fb od sd aa am vl ho) s.heap := hP
  have hl : lv_has ls 4 [(0, .ref (ma 0)), (1, .int (nI f))] := hl
  obtain ⟨o_nv, o_nb, o_nt, o_nf, o_na, o_lv, o_nm, o_vw, o_tw, o_am, o_sd, o_T, o_F, o_od, o_vl⟩ := id hok
  refine lv_aload_n hx hb d_M_truth_0 rfl (lv_at hl 0 rfl) ?_
  refine va_get (D := D) (ci := 3) (v := .ref (ma 8)) (C := R_M) (T := F_M) (N := 23) hx hb hts in_M hown hK hP 0 rfl rfl 11 (by decide) (hts _ wd_525) (fun _ h9 => h9) rfl d_M_truth_1 ?_
  refine lv_iload_n hx hb d_M_truth_4 rfl (lv_at hl 1 rfl) ?_
  refine n_iald hx hb hK hP 8 0 rfl rfl (i := f) (by omega) (by omega) d_M_truth_5 ?_
  refine lv_istore_n (lv' := [(2, .int (nI (fa f))), (0, .ref (ma 0)), (1, .int (nI f))]) hx hb d_M_truth_6 rfl hl (by decide) rfl (fun ls hl => ?_)
  refine lv_aload_n hx hb d_M_truth_7 rfl (lv_at hl 1 rfl) ?_
  refine va_get (D := D) (ci := 3) (v := .ref (ma 9)) (C := R_M) (T := F_M) (N := 23) hx hb hts in_M hown hK hP 0 rfl rfl 12 (by decide) (hts _ wd_526) (fun _ h9 => h9) rfl d_M_truth_8 ?_
  refine lv_iload_n hx hb d_M_truth_11 rfl (lv_at hl 2 rfl) ?_
  refine n_iald hx hb hK hP 9 0 rfl rfl (i := f) (by omega) (by omega) d_M_truth_12 ?_
  refine lv_istore_n (lv' := [(3, .int (fb f)), (2, .int (nI (fa f))), (0, .ref (ma 0)), (1, .int (nI f))]) hx hb d_M_truth_13 rfl hl (by decide) rfl (fun ls hl => ?_)
  refine lv_aload_n hx hb d_M_truth_14 rfl (lv_at hl 2 rfl) ?_
  refine va_get (D := D) (ci := 3) (v := .ref (ma 7)) (C := R_M) (T := F_M) (N := 23) hx hb hts in_M hown hK hP 0 rfl rfl 10 (by decide) (hts _ wd_524) (fun _ h9 => h9) rfl d_M_truth_15 ?_
  refine lv_iload_n hx hb d_M_truth_18 rfl (lv_at hl 3 rfl) ?_
  refine n_iald hx hb hK hP 7 0 rfl rfl (i := f) (by omega) (by omega) d_M_truth_19 ?_
  rw [hk]
  refine lv_tableIn (tgt := 237) (off := 217) hx hb d_M_truth_20 (by decide +kernel) (by decide +kernel) (by decide +kernel) (by decide) ?_
  refine lv_aload_n hx hb d_M_truth_237 rfl (lv_at hl 2 rfl) ?_
  refine va_get (D := D) (ci := 3) (v := .ref (ma 15)) (C := R_M) (T := F_M) (N := 23) hx hb hts in_M hown hK hP 0 rfl rfl 22 (by decide) (hts _ wd_536) (fun _ h9 => h9) rfl d_M_truth_238 ?_
  refine lv_iload_n hx hb d_M_truth_241 rfl (lv_at hl 1 rfl) ?_
  refine n_zald hx hb hK hP 15 1 rfl rfl (i := fa f) (by omega) (by omega) d_M_truth_242 ?_
  refine b_if_ne (tgt := 250) hx hb d_M_truth_243 (by decide) (fun c_243 => ?_) (fun c_243 => ?_)
  · refine lv_iconst (v := nI 0) hx hb d_M_truth_250 (by decide) ?_
    exact fn_zret hx hb hr hlocks hAe hK hP hD hS (by show _ = bI (truB 6 (fa f) kb0 vl ho tw); unfold truB; rw [c_243]; rfl) d_M_truth_251
  · refine lv_iconst (v := nI 1) hx hb d_M_truth_246 (by decide) ?_
    refine lv_goto (tgt := 251) hx hb d_M_truth_247 (by decide) ?_
    exact fn_zret hx hb hr hlocks hAe hK hP hD hS (by show _ = bI (truB 6 (fa f) kb0 vl ho tw); unfold truB; rw [c_243]; rfl) d_M_truth_251
set_option maxHeartbeats 4000000 in
set_option maxRecDepth 100000 in
theorem c_M_truth_7 (l : Launch) (D : va_G) (ma : Nat → Nat) (cI cZ : ClassId) (th nv nb nt nf na lv nm : Nat) (vw tk ta : Nat → Nat) (tb tc : Nat → Int32) (tw fk fa : Nat → Nat) (fb : Nat → Int32) (od sd aa am vl : Nat → Nat) (ho : Nat → Bool) (hok : Mok nv nb nt nf na lv nm vw tk ta tb tc tw fk fa fb od sd am vl) (f : Nat) (hf : f < nf) (hk : fk f = 7) (ha : fa f < nf) (j : Nat) (hj : j < nf) (hbj : fb f = nI j)  : Fn l y_M_truth (wk y_M_truth b_M_truth 4 (some .boolean)) rm_M_truth D cls [(cI, .int), (cZ, .boolean)] [.ref (ma 0), .int (nI f)] (mW ma cI cZ th nv nb nt nf na lv nm vw tk ta tb tc tw fk fa fb od sd aa am vl ho) XT (some (.int (bI (truB 7 (fa f) j vl ho tw)))) (mW ma cI cZ th nv nb nt nf na lv nm vw tk ta tb tc tw fk fa fb od sd aa am vl ho) := by
  refine Fn.of (by decide) rfl (Nat.le_of_ble_eq_true rfl) ?_
  intro p e s m below meth c A ls hx hb hml hr hts0 hown hlocks hnm hP hK hD hS hA hAe hX hl
  have hts : ∀ w ∈ lw_ok, w.before _ s = true := fun w h => hts0 w (List.mem_cons_of_mem _ h)
  have hown : s.vm.findClass R_M = some m.cls := hown
  have hP : va_P D cls (mW ma cI cZ th nv nb nt nf na lv nm vw tk ta tb tc tw fk fa fb od sd aa am vl ho) s.heap := hP
  have hl : lv_has ls 4 [(0, .ref (ma 0)), (1, .int (nI f))] := hl
  obtain ⟨o_nv, o_nb, o_nt, o_nf, o_na, o_lv, o_nm, o_vw, o_tw, o_am, o_sd, o_T, o_F, o_od, o_vl⟩ := id hok
  refine lv_aload_n hx hb d_M_truth_0 rfl (lv_at hl 0 rfl) ?_
  refine va_get (D := D) (ci := 3) (v := .ref (ma 8)) (C := R_M) (T := F_M) (N := 23) hx hb hts in_M hown hK hP 0 rfl rfl 11 (by decide) (hts _ wd_525) (fun _ h9 => h9) rfl d_M_truth_1 ?_
  refine lv_iload_n hx hb d_M_truth_4 rfl (lv_at hl 1 rfl) ?_
  refine n_iald hx hb hK hP 8 0 rfl rfl (i := f) (by omega) (by omega) d_M_truth_5 ?_
  refine lv_istore_n (lv' := [(2, .int (nI (fa f))), (0, .ref (ma 0)), (1, .int (nI f))]) hx hb d_M_truth_6 rfl hl (by decide) rfl (fun ls hl => ?_)
  refine lv_aload_n hx hb d_M_truth_7 rfl (lv_at hl 1 rfl) ?_
  refine va_get (D := D) (ci := 3) (v := .ref (ma 9)) (C := R_M) (T := F_M) (N := 23) hx hb hts in_M hown hK hP 0 rfl rfl 12 (by decide) (hts _ wd_526) (fun _ h9 => h9) rfl d_M_truth_8 ?_
  refine lv_iload_n hx hb d_M_truth_11 rfl (lv_at hl 2 rfl) ?_
  refine n_iald hx hb hK hP 9 0 rfl rfl (i := f) (by omega) (by omega) d_M_truth_12 ?_
  rw [hbj]
  refine lv_istore_n (lv' := [(3, .int (nI j)), (2, .int (nI (fa f))), (0, .ref (ma 0)), (1, .int (nI f))]) hx hb d_M_truth_13 rfl hl (by decide) rfl (fun ls hl => ?_)
  refine lv_aload_n hx hb d_M_truth_14 rfl (lv_at hl 2 rfl) ?_
  refine va_get (D := D) (ci := 3) (v := .ref (ma 7)) (C := R_M) (T := F_M) (N := 23) hx hb hts in_M hown hK hP 0 rfl rfl 10 (by decide) (hts _ wd_524) (fun _ h9 => h9) rfl d_M_truth_15 ?_
  refine lv_iload_n hx hb d_M_truth_18 rfl (lv_at hl 3 rfl) ?_
  refine n_iald hx hb hK hP 7 0 rfl rfl (i := f) (by omega) (by omega) d_M_truth_19 ?_
  rw [hk]
  refine lv_tableIn (tgt := 252) (off := 232) hx hb d_M_truth_20 (by decide +kernel) (by decide +kernel) (by decide +kernel) (by decide) ?_
  refine lv_aload_n hx hb d_M_truth_252 rfl (lv_at hl 2 rfl) ?_
  refine va_get (D := D) (ci := 3) (v := .ref (ma 15)) (C := R_M) (T := F_M) (N := 23) hx hb hts in_M hown hK hP 0 rfl rfl 22 (by decide) (hts _ wd_536) (fun _ h9 => h9) rfl d_M_truth_253 ?_
  refine lv_iload_n hx hb d_M_truth_256 rfl (lv_at hl 1 rfl) ?_
  refine n_zald hx hb hK hP 15 1 rfl rfl (i := fa f) (by omega) (by omega) d_M_truth_257 ?_
  refine b_if_eq (tgt := 274) hx hb d_M_truth_258 (by decide) (fun c_258 => ?_) (fun c_258 => ?_)
  · refine lv_iconst (v := nI 0) hx hb d_M_truth_274 (by decide) ?_
    exact fn_zret hx hb hr hlocks hAe hK hP hD hS (by show _ = bI (truB 7 (fa f) j vl ho tw); unfold truB; rw [c_258]; rfl) d_M_truth_275
  · refine lv_aload_n hx hb d_M_truth_261 rfl (lv_at hl 2 rfl) ?_
    refine va_get (D := D) (ci := 3) (v := .ref (ma 15)) (C := R_M) (T := F_M) (N := 23) hx hb hts in_M hown hK hP 0 rfl rfl 22 (by decide) (hts _ wd_536) (fun _ h9 => h9) rfl d_M_truth_262 ?_
    refine lv_iload_n hx hb d_M_truth_265 rfl (lv_at hl 0 rfl) ?_
    refine n_zald hx hb hK hP 15 1 rfl rfl (i := j) (by omega) (by omega) d_M_truth_266 ?_
    refine b_if_eq (tgt := 274) hx hb d_M_truth_267 (by decide) (fun c_267 => ?_) (fun c_267 => ?_)
    · refine lv_iconst (v := nI 0) hx hb d_M_truth_274 (by decide) ?_
      exact fn_zret hx hb hr hlocks hAe hK hP hD hS (by show _ = bI (truB 7 (fa f) j vl ho tw); unfold truB; rw [c_258, c_267]; rfl) d_M_truth_275
    · refine lv_iconst (v := nI 1) hx hb d_M_truth_270 (by decide) ?_
      refine lv_goto (tgt := 275) hx hb d_M_truth_271 (by decide) ?_
      exact fn_zret hx hb hr hlocks hAe hK hP hD hS (by show _ = bI (truB 7 (fa f) j vl ho tw); unfold truB; rw [c_258, c_267]; rfl) d_M_truth_275
set_option maxHeartbeats 4000000 in
set_option maxRecDepth 100000 in
theorem c_M_truth_8 (l : Launch) (D : va_G) (ma : Nat → Nat) (cI cZ : ClassId) (th nv nb nt nf na lv nm : Nat) (vw tk ta : Nat → Nat) (tb tc : Nat → Int32) (tw fk fa : Nat → Nat) (fb : Nat → Int32) (od sd aa am vl : Nat → Nat) (ho : Nat → Bool) (hok : Mok nv nb nt nf na lv nm vw tk ta tb tc tw fk fa fb od sd am vl) (f : Nat) (hf : f < nf) (hk : fk f = 8) (ha : fa f < nf) (j : Nat) (hj : j < nf) (hbj : fb f = nI j)  : Fn l y_M_truth (wk y_M_truth b_M_truth 4 (some .boolean)) rm_M_truth D cls [(cI, .int), (cZ, .boolean)] [.ref (ma 0), .int (nI f)] (mW ma cI cZ th nv nb nt nf na lv nm vw tk ta tb tc tw fk fa fb od sd aa am vl ho) XT (some (.int (bI (truB 8 (fa f) j vl ho tw)))) (mW ma cI cZ th nv nb nt nf na lv nm vw tk ta tb tc tw fk fa fb od sd aa am vl ho) := by
  refine Fn.of (by decide) rfl (Nat.le_of_ble_eq_true rfl) ?_
  intro p e s m below meth c A ls hx hb hml hr hts0 hown hlocks hnm hP hK hD hS hA hAe hX hl
  have hts : ∀ w ∈ lw_ok, w.before _ s = true := fun w h => hts0 w (List.mem_cons_of_mem _ h)
  have hown : s.vm.findClass R_M = some m.cls := hown
  have hP : va_P D cls (mW ma cI cZ th nv nb nt nf na lv nm vw tk ta tb tc tw fk fa fb od sd aa am vl ho) s.heap := hP
  have hl : lv_has ls 4 [(0, .ref (ma 0)), (1, .int (nI f))] := hl
  obtain ⟨o_nv, o_nb, o_nt, o_nf, o_na, o_lv, o_nm, o_vw, o_tw, o_am, o_sd, o_T, o_F, o_od, o_vl⟩ := id hok
  refine lv_aload_n hx hb d_M_truth_0 rfl (lv_at hl 0 rfl) ?_
  refine va_get (D := D) (ci := 3) (v := .ref (ma 8)) (C := R_M) (T := F_M) (N := 23) hx hb hts in_M hown hK hP 0 rfl rfl 11 (by decide) (hts _ wd_525) (fun _ h9 => h9) rfl d_M_truth_1 ?_
  refine lv_iload_n hx hb d_M_truth_4 rfl (lv_at hl 1 rfl) ?_
  refine n_iald hx hb hK hP 8 0 rfl rfl (i := f) (by omega) (by omega) d_M_truth_5 ?_
  refine lv_istore_n (lv' := [(2, .int (nI (fa f))), (0, .ref (ma 0)), (1, .int (nI f))]) hx hb d_M_truth_6 rfl hl (by decide) rfl (fun ls hl => ?_)
  refine lv_aload_n hx hb d_M_truth_7 rfl (lv_at hl 1 rfl) ?_
  refine va_get (D := D) (ci := 3) (v := .ref (ma 9)) (C := R_M) (T := F_M) (N := 23) hx hb hts in_M hown hK hP 0 rfl rfl 12 (by decide) (hts _ wd_526) (fun _ h9 => h9) rfl d_M_truth_8 ?_
  refine lv_iload_n hx hb d_M_truth_11 rfl (lv_at hl 2 rfl) ?_
  refine n_iald hx hb hK hP 9 0 rfl rfl (i := f) (by omega) (by omega) d_M_truth_12 ?_
  rw [hbj]
  refine lv_istore_n (lv' := [(3, .int (nI j)), (2, .int (nI (fa f))), (0, .ref (ma 0)), (1, .int (nI f))]) hx hb d_M_truth_13 rfl hl (by decide) rfl (fun ls hl => ?_)
  refine lv_aload_n hx hb d_M_truth_14 rfl (lv_at hl 2 rfl) ?_
  refine va_get (D := D) (ci := 3) (v := .ref (ma 7)) (C := R_M) (T := F_M) (N := 23) hx hb hts in_M hown hK hP 0 rfl rfl 10 (by decide) (hts _ wd_524) (fun _ h9 => h9) rfl d_M_truth_15 ?_
  refine lv_iload_n hx hb d_M_truth_18 rfl (lv_at hl 3 rfl) ?_
  refine n_iald hx hb hK hP 7 0 rfl rfl (i := f) (by omega) (by omega) d_M_truth_19 ?_
  rw [hk]
  refine lv_tableIn (tgt := 276) (off := 256) hx hb d_M_truth_20 (by decide +kernel) (by decide +kernel) (by decide +kernel) (by decide) ?_
  refine lv_aload_n hx hb d_M_truth_276 rfl (lv_at hl 2 rfl) ?_
  refine va_get (D := D) (ci := 3) (v := .ref (ma 15)) (C := R_M) (T := F_M) (N := 23) hx hb hts in_M hown hK hP 0 rfl rfl 22 (by decide) (hts _ wd_536) (fun _ h9 => h9) rfl d_M_truth_277 ?_
  refine lv_iload_n hx hb d_M_truth_280 rfl (lv_at hl 1 rfl) ?_
  refine n_zald hx hb hK hP 15 1 rfl rfl (i := fa f) (by omega) (by omega) d_M_truth_281 ?_
  refine b_if_ne (tgt := 294) hx hb d_M_truth_282 (by decide) (fun c_282 => ?_) (fun c_282 => ?_)
  · refine lv_iconst (v := nI 1) hx hb d_M_truth_294 (by decide) ?_
    refine lv_goto (tgt := 299) hx hb d_M_truth_295 (by decide) ?_
    exact fn_zret hx hb hr hlocks hAe hK hP hD hS (by show _ = bI (truB 8 (fa f) j vl ho tw); unfold truB; rw [c_282]; rfl) d_M_truth_299
  · refine lv_aload_n hx hb d_M_truth_285 rfl (lv_at hl 2 rfl) ?_
    refine va_get (D := D) (ci := 3) (v := .ref (ma 15)) (C := R_M) (T := F_M) (N := 23) hx hb hts in_M hown hK hP 0 rfl rfl 22 (by decide) (hts _ wd_536) (fun _ h9 => h9) rfl d_M_truth_286 ?_
    refine lv_iload_n hx hb d_M_truth_289 rfl (lv_at hl 0 rfl) ?_
    refine n_zald hx hb hK hP 15 1 rfl rfl (i := j) (by omega) (by omega) d_M_truth_290 ?_
    refine b_if_eq (tgt := 298) hx hb d_M_truth_291 (by decide) (fun c_291 => ?_) (fun c_291 => ?_)
    · refine lv_iconst (v := nI 0) hx hb d_M_truth_298 (by decide) ?_
      exact fn_zret hx hb hr hlocks hAe hK hP hD hS (by show _ = bI (truB 8 (fa f) j vl ho tw); unfold truB; rw [c_282, c_291]; rfl) d_M_truth_299
    · refine lv_iconst (v := nI 1) hx hb d_M_truth_294 (by decide) ?_
      refine lv_goto (tgt := 299) hx hb d_M_truth_295 (by decide) ?_
      exact fn_zret hx hb hr hlocks hAe hK hP hD hS (by show _ = bI (truB 8 (fa f) j vl ho tw); unfold truB; rw [c_282, c_291]; rfl) d_M_truth_299
set_option maxHeartbeats 4000000 in
set_option maxRecDepth 100000 in
theorem c_M_truth_9 (l : Launch) (D : va_G) (ma : Nat → Nat) (cI cZ : ClassId) (th nv nb nt nf na lv nm : Nat) (vw tk ta : Nat → Nat) (tb tc : Nat → Int32) (tw fk fa : Nat → Nat) (fb : Nat → Int32) (od sd aa am vl : Nat → Nat) (ho : Nat → Bool) (hok : Mok nv nb nt nf na lv nm vw tk ta tb tc tw fk fa fb od sd am vl) (f : Nat) (hf : f < nf) (hk : fk f = 9) (ha : fa f < nf) (j : Nat) (hj : j < nf) (hbj : fb f = nI j)  : Fn l y_M_truth (wk y_M_truth b_M_truth 4 (some .boolean)) rm_M_truth D cls [(cI, .int), (cZ, .boolean)] [.ref (ma 0), .int (nI f)] (mW ma cI cZ th nv nb nt nf na lv nm vw tk ta tb tc tw fk fa fb od sd aa am vl ho) XT (some (.int (bI (truB 9 (fa f) j vl ho tw)))) (mW ma cI cZ th nv nb nt nf na lv nm vw tk ta tb tc tw fk fa fb od sd aa am vl ho) := by
  refine Fn.of (by decide) rfl (Nat.le_of_ble_eq_true rfl) ?_
  intro p e s m below meth c A ls hx hb hml hr hts0 hown hlocks hnm hP hK hD hS hA hAe hX hl
  have hts : ∀ w ∈ lw_ok, w.before _ s = true := fun w h => hts0 w (List.mem_cons_of_mem _ h)
  have hown : s.vm.findClass R_M = some m.cls := hown
  have hP : va_P D cls (mW ma cI cZ th nv nb nt nf na lv nm vw tk ta tb tc tw fk fa fb od sd aa am vl ho) s.heap := hP
  have hl : lv_has ls 4 [(0, .ref (ma 0)), (1, .int (nI f))] := hl
  obtain ⟨o_nv, o_nb, o_nt, o_nf, o_na, o_lv, o_nm, o_vw, o_tw, o_am, o_sd, o_T, o_F, o_od, o_vl⟩ := id hok
  refine lv_aload_n hx hb d_M_truth_0 rfl (lv_at hl 0 rfl) ?_
  refine va_get (D := D) (ci := 3) (v := .ref (ma 8)) (C := R_M) (T := F_M) (N := 23) hx hb hts in_M hown hK hP 0 rfl rfl 11 (by decide) (hts _ wd_525) (fun _ h9 => h9) rfl d_M_truth_1 ?_
  refine lv_iload_n hx hb d_M_truth_4 rfl (lv_at hl 1 rfl) ?_
  refine n_iald hx hb hK hP 8 0 rfl rfl (i := f) (by omega) (by omega) d_M_truth_5 ?_
  refine lv_istore_n (lv' := [(2, .int (nI (fa f))), (0, .ref (ma 0)), (1, .int (nI f))]) hx hb d_M_truth_6 rfl hl (by decide) rfl (fun ls hl => ?_)
  refine lv_aload_n hx hb d_M_truth_7 rfl (lv_at hl 1 rfl) ?_
  refine va_get (D := D) (ci := 3) (v := .ref (ma 9)) (C := R_M) (T := F_M) (N := 23) hx hb hts in_M hown hK hP 0 rfl rfl 12 (by decide) (hts _ wd_526) (fun _ h9 => h9) rfl d_M_truth_8 ?_
  refine lv_iload_n hx hb d_M_truth_11 rfl (lv_at hl 2 rfl) ?_
  refine n_iald hx hb hK hP 9 0 rfl rfl (i := f) (by omega) (by omega) d_M_truth_12 ?_
  rw [hbj]
  refine lv_istore_n (lv' := [(3, .int (nI j)), (2, .int (nI (fa f))), (0, .ref (ma 0)), (1, .int (nI f))]) hx hb d_M_truth_13 rfl hl (by decide) rfl (fun ls hl => ?_)
  refine lv_aload_n hx hb d_M_truth_14 rfl (lv_at hl 2 rfl) ?_
  refine va_get (D := D) (ci := 3) (v := .ref (ma 7)) (C := R_M) (T := F_M) (N := 23) hx hb hts in_M hown hK hP 0 rfl rfl 10 (by decide) (hts _ wd_524) (fun _ h9 => h9) rfl d_M_truth_15 ?_
  refine lv_iload_n hx hb d_M_truth_18 rfl (lv_at hl 3 rfl) ?_
  refine n_iald hx hb hK hP 7 0 rfl rfl (i := f) (by omega) (by omega) d_M_truth_19 ?_
  rw [hk]
  refine lv_tableIn (tgt := 300) (off := 280) hx hb d_M_truth_20 (by decide +kernel) (by decide +kernel) (by decide +kernel) (by decide) ?_
  refine lv_aload_n hx hb d_M_truth_300 rfl (lv_at hl 2 rfl) ?_
  refine va_get (D := D) (ci := 3) (v := .ref (ma 15)) (C := R_M) (T := F_M) (N := 23) hx hb hts in_M hown hK hP 0 rfl rfl 22 (by decide) (hts _ wd_536) (fun _ h9 => h9) rfl d_M_truth_301 ?_
  refine lv_iload_n hx hb d_M_truth_304 rfl (lv_at hl 1 rfl) ?_
  refine n_zald hx hb hK hP 15 1 rfl rfl (i := fa f) (by omega) (by omega) d_M_truth_305 ?_
  refine lv_aload_n hx hb d_M_truth_306 rfl (lv_at hl 2 rfl) ?_
  refine va_get (D := D) (ci := 3) (v := .ref (ma 15)) (C := R_M) (T := F_M) (N := 23) hx hb hts in_M hown hK hP 0 rfl rfl 22 (by decide) (hts _ wd_536) (fun _ h9 => h9) rfl d_M_truth_307 ?_
  refine lv_iload_n hx hb d_M_truth_310 rfl (lv_at hl 0 rfl) ?_
  refine n_zald hx hb hK hP 15 1 rfl rfl (i := j) (by omega) (by omega) d_M_truth_311 ?_
  refine z_icmp_eq (tgt := 319) hx hb rfl rfl d_M_truth_312 (by decide) (fun c_312 => ?_) (fun c_312 => ?_)
  · refine lv_iconst (v := nI 0) hx hb d_M_truth_319 (by decide) ?_
    exact fn_zret hx hb hr hlocks hAe hK hP hD hS (by show _ = bI (ho (fa f) ^^ ho j); cases h1 : ho (fa f) <;> cases h2 : ho j <;> rw [h1, h2] at c_312 <;> first | rfl | exact absurd (by decide +kernel) c_312 | exact absurd c_312 (by decide +kernel)) d_M_truth_320
  · refine lv_iconst (v := nI 1) hx hb d_M_truth_315 (by decide) ?_
    refine lv_goto (tgt := 320) hx hb d_M_truth_316 (by decide) ?_
    exact fn_zret hx hb hr hlocks hAe hK hP hD hS (by show _ = bI (ho (fa f) ^^ ho j); cases h1 : ho (fa f) <;> cases h2 : ho j <;> rw [h1, h2] at c_312 <;> first | rfl | exact absurd (by decide +kernel) c_312 | exact absurd c_312 (by decide +kernel)) d_M_truth_320
set_option maxHeartbeats 4000000 in
set_option maxRecDepth 100000 in
theorem c_M_truth_10 (l : Launch) (D : va_G) (ma : Nat → Nat) (cI cZ : ClassId) (th nv nb nt nf na lv nm : Nat) (vw tk ta : Nat → Nat) (tb tc : Nat → Int32) (tw fk fa : Nat → Nat) (fb : Nat → Int32) (od sd aa am vl : Nat → Nat) (ho : Nat → Bool) (hok : Mok nv nb nt nf na lv nm vw tk ta tb tc tw fk fa fb od sd am vl) (f : Nat) (hf : f < nf) (hk : fk f = 10) (ha : fa f < nf) (j : Nat) (hj : j < nf) (hbj : fb f = nI j)  : Fn l y_M_truth (wk y_M_truth b_M_truth 4 (some .boolean)) rm_M_truth D cls [(cI, .int), (cZ, .boolean)] [.ref (ma 0), .int (nI f)] (mW ma cI cZ th nv nb nt nf na lv nm vw tk ta tb tc tw fk fa fb od sd aa am vl ho) XT (some (.int (bI (truB 10 (fa f) j vl ho tw)))) (mW ma cI cZ th nv nb nt nf na lv nm vw tk ta tb tc tw fk fa fb od sd aa am vl ho) := by
  refine Fn.of (by decide) rfl (Nat.le_of_ble_eq_true rfl) ?_
  intro p e s m below meth c A ls hx hb hml hr hts0 hown hlocks hnm hP hK hD hS hA hAe hX hl
  have hts : ∀ w ∈ lw_ok, w.before _ s = true := fun w h => hts0 w (List.mem_cons_of_mem _ h)
  have hown : s.vm.findClass R_M = some m.cls := hown
  have hP : va_P D cls (mW ma cI cZ th nv nb nt nf na lv nm vw tk ta tb tc tw fk fa fb od sd aa am vl ho) s.heap := hP
  have hl : lv_has ls 4 [(0, .ref (ma 0)), (1, .int (nI f))] := hl
  obtain ⟨o_nv, o_nb, o_nt, o_nf, o_na, o_lv, o_nm, o_vw, o_tw, o_am, o_sd, o_T, o_F, o_od, o_vl⟩ := id hok
  refine lv_aload_n hx hb d_M_truth_0 rfl (lv_at hl 0 rfl) ?_
  refine va_get (D := D) (ci := 3) (v := .ref (ma 8)) (C := R_M) (T := F_M) (N := 23) hx hb hts in_M hown hK hP 0 rfl rfl 11 (by decide) (hts _ wd_525) (fun _ h9 => h9) rfl d_M_truth_1 ?_
  refine lv_iload_n hx hb d_M_truth_4 rfl (lv_at hl 1 rfl) ?_
  refine n_iald hx hb hK hP 8 0 rfl rfl (i := f) (by omega) (by omega) d_M_truth_5 ?_
  refine lv_istore_n (lv' := [(2, .int (nI (fa f))), (0, .ref (ma 0)), (1, .int (nI f))]) hx hb d_M_truth_6 rfl hl (by decide) rfl (fun ls hl => ?_)
  refine lv_aload_n hx hb d_M_truth_7 rfl (lv_at hl 1 rfl) ?_
  refine va_get (D := D) (ci := 3) (v := .ref (ma 9)) (C := R_M) (T := F_M) (N := 23) hx hb hts in_M hown hK hP 0 rfl rfl 12 (by decide) (hts _ wd_526) (fun _ h9 => h9) rfl d_M_truth_8 ?_
  refine lv_iload_n hx hb d_M_truth_11 rfl (lv_at hl 2 rfl) ?_
  refine n_iald hx hb hK hP 9 0 rfl rfl (i := f) (by omega) (by omega) d_M_truth_12 ?_
  rw [hbj]
  refine lv_istore_n (lv' := [(3, .int (nI j)), (2, .int (nI (fa f))), (0, .ref (ma 0)), (1, .int (nI f))]) hx hb d_M_truth_13 rfl hl (by decide) rfl (fun ls hl => ?_)
  refine lv_aload_n hx hb d_M_truth_14 rfl (lv_at hl 2 rfl) ?_
  refine va_get (D := D) (ci := 3) (v := .ref (ma 7)) (C := R_M) (T := F_M) (N := 23) hx hb hts in_M hown hK hP 0 rfl rfl 10 (by decide) (hts _ wd_524) (fun _ h9 => h9) rfl d_M_truth_15 ?_
  refine lv_iload_n hx hb d_M_truth_18 rfl (lv_at hl 3 rfl) ?_
  refine n_iald hx hb hK hP 7 0 rfl rfl (i := f) (by omega) (by omega) d_M_truth_19 ?_
  rw [hk]
  refine lv_tableOut (tgt := 321) hx hb d_M_truth_20 (by decide +kernel) (by decide) ?_
  refine lv_aload_n hx hb d_M_truth_321 rfl (lv_at hl 2 rfl) ?_
  refine va_get (D := D) (ci := 3) (v := .ref (ma 15)) (C := R_M) (T := F_M) (N := 23) hx hb hts in_M hown hK hP 0 rfl rfl 22 (by decide) (hts _ wd_536) (fun _ h9 => h9) rfl d_M_truth_322 ?_
  refine lv_iload_n hx hb d_M_truth_325 rfl (lv_at hl 1 rfl) ?_
  refine n_zald hx hb hK hP 15 1 rfl rfl (i := fa f) (by omega) (by omega) d_M_truth_326 ?_
  refine b_if_eq (tgt := 339) hx hb d_M_truth_327 (by decide) (fun c_327 => ?_) (fun c_327 => ?_)
  · refine lv_iconst (v := nI 1) hx hb d_M_truth_339 (by decide) ?_
    refine lv_goto (tgt := 344) hx hb d_M_truth_340 (by decide) ?_
    exact fn_zret hx hb hr hlocks hAe hK hP hD hS (by show _ = bI (truB 10 (fa f) j vl ho tw); unfold truB; rw [c_327]; rfl) d_M_truth_344
  · refine lv_aload_n hx hb d_M_truth_330 rfl (lv_at hl 2 rfl) ?_
    refine va_get (D := D) (ci := 3) (v := .ref (ma 15)) (C := R_M) (T := F_M) (N := 23) hx hb hts in_M hown hK hP 0 rfl rfl 22 (by decide) (hts _ wd_536) (fun _ h9 => h9) rfl d_M_truth_331 ?_
    refine lv_iload_n hx hb d_M_truth_334 rfl (lv_at hl 0 rfl) ?_
    refine n_zald hx hb hK hP 15 1 rfl rfl (i := j) (by omega) (by omega) d_M_truth_335 ?_
    refine b_if_eq (tgt := 343) hx hb d_M_truth_336 (by decide) (fun c_336 => ?_) (fun c_336 => ?_)
    · refine lv_iconst (v := nI 0) hx hb d_M_truth_343 (by decide) ?_
      exact fn_zret hx hb hr hlocks hAe hK hP hD hS (by show _ = bI (truB 10 (fa f) j vl ho tw); unfold truB; rw [c_327, c_336]; rfl) d_M_truth_344
    · refine lv_iconst (v := nI 1) hx hb d_M_truth_339 (by decide) ?_
      refine lv_goto (tgt := 344) hx hb d_M_truth_340 (by decide) ?_
      exact fn_zret hx hb hr hlocks hAe hK hP hD hS (by show _ = bI (truB 10 (fa f) j vl ho tw); unfold truB; rw [c_327, c_336]; rfl) d_M_truth_344
set_option maxHeartbeats 4000000 in
set_option maxRecDepth 100000 in
theorem c_M_truth (l : Launch) (D : va_G) (ma : Nat → Nat) (cI cZ : ClassId) (th nv nb nt nf na lv nm : Nat) (vw tk ta : Nat → Nat) (tb tc : Nat → Int32) (tw fk fa : Nat → Nat) (fb : Nat → Int32) (od sd aa am vl : Nat → Nat) (ho : Nat → Bool) (hok : Mok nv nb nt nf na lv nm vw tk ta tb tc tw fk fa fb od sd am vl) (f : Nat) (hf : f < nf) : Fn l y_M_truth (wk y_M_truth b_M_truth 4 (some .boolean)) rm_M_truth D cls [(cI, .int), (cZ, .boolean)] [.ref (ma 0), .int (nI f)] (mW ma cI cZ th nv nb nt nf na lv nm vw tk ta tb tc tw fk fa fb od sd aa am vl ho) XT (some (.int (bI (truB (fk f) (fa f) (nB (fb f)) vl ho tw)))) (mW ma cI cZ th nv nb nt nf na lv nm vw tk ta tb tc tw fk fa fb od sd aa am vl ho) := by
  obtain ⟨o_nv, o_nb, o_nt, o_nf, o_na, o_lv, o_nm, o_vw, o_tw, o_am, o_sd, o_T, o_F, o_od, o_vl⟩ := id hok
  rcases o_F f hf with ⟨hk, ha, j, hj, hbj⟩ | ⟨hk, ha, j, hj, hbj⟩ | ⟨hk, ha⟩ | ⟨hk1, hk, ha, j, hj, hbj⟩
  · have ej : nB (fb f) = j := by rw [hbj]; exact nB_I (by omega)
    rcases (show fk f = 0 ∨ fk f = 1 ∨ fk f = 2 ∨ fk f = 3 ∨ fk f = 4 by omega) with hk | hk | hk | hk | hk
    · have h := c_M_truth_0 l D ma cI cZ th nv nb nt nf na lv nm vw tk ta tb tc tw fk fa fb od sd aa am vl ho hok f hf hk ha j hj hbj
      rw [hk, ej]
      exact h
    · have h := c_M_truth_1 l D ma cI cZ th nv nb nt nf na lv nm vw tk ta tb tc tw fk fa fb od sd aa am vl ho hok f hf hk ha j hj hbj
      rw [hk, ej]
      exact h
    · have h := c_M_truth_2 l D ma cI cZ th nv nb nt nf na lv nm vw tk ta tb tc tw fk fa fb od sd aa am vl ho hok f hf hk ha j hj hbj
      rw [hk, ej]
      exact h
    · have h := c_M_truth_3 l D ma cI cZ th nv nb nt nf na lv nm vw tk ta tb tc tw fk fa fb od sd aa am vl ho hok f hf hk ha j hj hbj
      rw [hk, ej]
      exact h
    · have h := c_M_truth_4 l D ma cI cZ th nv nb nt nf na lv nm vw tk ta tb tc tw fk fa fb od sd aa am vl ho hok f hf hk ha j hj hbj
      rw [hk, ej]
      exact h
  · have ej : nB (fb f) = j := by rw [hbj]; exact nB_I (by omega)
    have h := c_M_truth_5 l D ma cI cZ th nv nb nt nf na lv nm vw tk ta tb tc tw fk fa fb od sd aa am vl ho hok f hf hk ha j hj hbj
    rw [hk, ej]
    exact h
  · have h := c_M_truth_6 l D ma cI cZ th nv nb nt nf na lv nm vw tk ta tb tc tw fk fa fb od sd aa am vl ho hok f hf hk ha (nB (fb f))
    rw [hk]
    exact h
  · have ej : nB (fb f) = j := by rw [hbj]; exact nB_I (by omega)
    rcases (show fk f = 7 ∨ fk f = 8 ∨ fk f = 9 ∨ fk f = 10 by omega) with hk | hk | hk | hk
    · have h := c_M_truth_7 l D ma cI cZ th nv nb nt nf na lv nm vw tk ta tb tc tw fk fa fb od sd aa am vl ho hok f hf hk ha j hj hbj
      rw [hk, ej]
      exact h
    · have h := c_M_truth_8 l D ma cI cZ th nv nb nt nf na lv nm vw tk ta tb tc tw fk fa fb od sd aa am vl ho hok f hf hk ha j hj hbj
      rw [hk, ej]
      exact h
    · have h := c_M_truth_9 l D ma cI cZ th nv nb nt nf na lv nm vw tk ta tb tc tw fk fa fb od sd aa am vl ho hok f hf hk ha j hj hbj
      rw [hk, ej]
      exact h
    · have h := c_M_truth_10 l D ma cI cZ th nv nb nt nf na lv nm vw tk ta tb tc tw fk fa fb od sd aa am vl ho hok f hf hk ha j hj hbj
      rw [hk, ej]
      exact h
