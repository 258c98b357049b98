theorem fit_up : ∀ n ∈ X_up, Bundle.fit n = true := by decide +kernel
theorem at1_IAE : ∀ w ∈ (vx_at0 R_B 49 X_IAE X_up).filter goodWord, w ∈ lw_tbl := by decide +kernel
theorem at2_IAE : ∀ w ∈ (vx_at0 R_B 49 X_IAE X_up).filter (fun w => !goodWord w), w ∈ lw_bad := by decide +kernel
theorem at3_IAE : ∀ w ∈ Cond.classLink R_B 47 X_IAE :: Cond.initialized X_IAE :: vx_at0 R_B 49 X_IAE X_up, vx_ot w = true := by decide +kernel
theorem at1_ISE : ∀ w ∈ (vx_at0 R_B 59 X_ISE X_up).filter goodWord, w ∈ lw_tbl := by decide +kernel
theorem at2_ISE : ∀ w ∈ (vx_at0 R_B 59 X_ISE X_up).filter (fun w => !goodWord w), w ∈ lw_bad := by decide +kernel
theorem at3_ISE : ∀ w ∈ Cond.classLink R_B 57 X_ISE :: Cond.initialized X_ISE :: vx_at0 R_B 59 X_ISE X_up, vx_ot w = true := by decide +kernel
theorem at1_NSE : ∀ w ∈ (vx_at0 R_B 96 X_NSE X_up).filter goodWord, w ∈ lw_tbl := by decide +kernel
theorem at2_NSE : ∀ w ∈ (vx_at0 R_B 96 X_NSE X_up).filter (fun w => !goodWord w), w ∈ lw_bad := by decide +kernel
theorem at3_NSE : ∀ w ∈ Cond.classLink R_B 94 X_NSE :: Cond.initialized X_NSE :: vx_at0 R_B 96 X_NSE X_up, vx_ot w = true := by decide +kernel
theorem at1_UOE : ∀ w ∈ (vx_at0 R_B 122 X_UOE X_up).filter goodWord, w ∈ lw_tbl := by decide +kernel
theorem at2_UOE : ∀ w ∈ (vx_at0 R_B 122 X_UOE X_up).filter (fun w => !goodWord w), w ∈ lw_bad := by decide +kernel
theorem at3_UOE : ∀ w ∈ Cond.classLink R_B 120 X_UOE :: Cond.initialized X_UOE :: vx_at0 R_B 122 X_UOE X_up, vx_ot w = true := by decide +kernel
abbrev rt_B_assertion : Room := { frames := 6, cells := 1, slots := 6, locals := 81 }
abbrev rt_B_assume : Room := { frames := 6, cells := 1, slots := 6, locals := 81 }
abbrev rt_B_blame : Room := { frames := 6, cells := 1, slots := 6, locals := 81 }
abbrev rt_B_count : Room := { frames := 6, cells := 1, slots := 6, locals := 81 }
abbrev rt_B_entailed : Room := { frames := 6, cells := 1, slots := 6, locals := 81 }
abbrev rt_B_fixed : Room := { frames := 6, cells := 1, slots := 6, locals := 81 }
abbrev rt_B_formula : Room := { frames := 6, cells := 1, slots := 6, locals := 104 }
abbrev rt_B_least : Room := { frames := 6, cells := 1, slots := 6, locals := 81 }
abbrev rt_B_pop : Room := { frames := 6, cells := 1, slots := 6, locals := 81 }
abbrev rt_B_push : Room := { frames := 6, cells := 1, slots := 6, locals := 81 }
abbrev rt_B_term : Room := { frames := 6, cells := 1, slots := 6, locals := 99 }
abbrev rt_B_value : Room := { frames := 6, cells := 1, slots := 6, locals := 81 }
abbrev rt_B_valueOf : Room := { frames := 6, cells := 1, slots := 6, locals := 81 }
abbrev rt_B_variable : Room := { frames := 6, cells := 1, slots := 6, locals := 81 }
set_option maxHeartbeats 4000000 in
set_option maxRecDepth 100000 in
theorem e_B_variable_1 (l : Launch) (D : va_G) (hst : l.stackTraces = false) (n0 : Nat) (ad : Nat → Nat) (cL cI : ClassId) (nv nb nt nf na lv nm : Nat) (vw vp tw ab am : Nat → Nat) (w : Nat → Int64) (hok : Bok nv nb nt nf na lv nm vw vp tw ab am) (u : ∀ i, i < 9 → n0 ≤ ad i) (x : Int32) (hw : wdB x = false) : Ft l y_B_variable (wk y_B_variable b_B_variable 2 (some .int)) rt_B_variable D cls [(cL, .long), (cI, .int)] [.ref (ad 0), .int x] (bsW ad cL cI nv nb nt nf na lv nm vw vp tw ab am w) (Ze n0) X_IAE (bsW ad cL cI nv nb nt nf na lv nm vw vp tw ab am w) := by
  refine Ft.of (by decide) rfl (Nat.le_of_ble_eq_true rfl) ?_
  intro p e s m below meth c A ls hx hb hml hr hts0 hown hlocks hnone hP hK hD hS hA hAe hX hl
  have hts : ∀ w ∈ lw_ok, w.before _ s = true := fun w h => hts0 w (List.mem_cons_of_mem _ h)
  have hown : s.vm.findClass R_B = some m.cls := hown
  have hP : va_P D cls (bsW ad cL cI nv nb nt nf na lv nm vw vp tw ab am w) s.heap := hP
  have hl : lv_has ls 2 [(0, .ref (ad 0)), (1, .int x)] := hl
  have hAn : ∀ q, A q → n0 ≤ q := fun q h => by rw [hAe] at h; exact Ze_AB hX u h
  obtain ⟨o_nv, o_nb, o_nt, o_nf, o_na, o_lv, o_nm, o_vw, o_tw, o_am, o_ab⟩ := id hok
  refine lv_iload_n hx hb d_B_variable_0 rfl (lv_at hl 1 rfl) ?_
  refine fn_S (ws' := (bsW ad cL cI nv nb nt nf na lv nm vw vp tw ab am w)) (w1 := (nilW)) (wc := (nilW)) (wr := [(ad 0, .inr (0, [.ref (ad 2), .ref (ad 1), .ref (ad 4), .ref (ad 5), .int (nI nv), .int (nI nb), .ref (ad 6), .int (nI nt), .int (nI nf), .ref (ad 7), .int (nI na), .int (nI lv), .ref (ad 8), .int (nI nm)])), (ad 1, .inr (2, [.ref (ad 2)])), (ad 2, .inr (1, [.ref (ad 3)])), (ad 3, .inl (cL, 4160, .inr (.inl w))), (ad 4, .inl (cI, 6, .inl (fun j => nI (vw j)))), (ad 5, .inl (cI, 6, .inl (fun j => nI (vp j)))), (ad 6, .inl (cI, 50, .inl (fun j => nI (tw j)))), (ad 7, .inl (cI, 6, .inl (fun j => nI (ab j)))), (ad 8, .inl (cI, 8, .inl (fun j => nI (am j))))]) ⟨hx, hb, hml, hown, hts⟩ (c_B_isWidth l D x) ⟨callB_of 1 hts (gW wd_146) rfl rfl rfl (hts _ wd_1) (hts _ wd_144) hd_B_isWidth ⟨Nat.le_of_ble_eq_true rfl, Nat.le_of_ble_eq_true rfl⟩, hts _ wd_145⟩ XT_ok (fun _ _ _ => trivial) hK hP hD hS hA [] [] [0, 1, 2, 3, 4, 5, 6, 7, 8] [0, 1, 2, 3, 4, 5, 6, 7, 8] rfl rfl rfl rfl rfl (by decide) rfl rfl rfl hl.1 rfl (Nat.le_of_ble_eq_true rfl) d_B_variable_1 ⟨Nat.zero_le _, Nat.zero_le _⟩ (st1 := [.int (bI (wdB x))]) rfl (fun H locs hP hD hS => ?_)
  refine b_if_ne (tgt := 15) hx hb d_B_variable_4 (by decide) (fun c_4 => ?_) (fun c_4 => ?_)
  · exact absurd c_4 (by rw [hw]; decide)
  · exact ft_throw (n0 := n0) (own := R_B) (E := X_IAE) (names := X_up) hx hb hst hlocks hnone (hl.1.trans hml.symm) hown (by decide +kernel) fit_up (hts _ wd_147) (hts _ wd_8) (at_of at1_IAE at2_IAE hts hX.2.2.2) at3_IAE hX hAn hAe hK hP hD hS (Nat.le_of_ble_eq_true rfl) (Nat.le_of_ble_eq_true rfl) (Nat.le_of_ble_eq_true rfl) (Nat.le_of_ble_eq_true rfl) d_B_variable_7 d_B_variable_10 d_B_variable_11 d_B_variable_14
set_option maxHeartbeats 4000000 in
set_option maxRecDepth 100000 in
theorem e_B_variable_2 (l : Launch) (D : va_G) (hst : l.stackTraces = false) (n0 : Nat) (ad : Nat → Nat) (cL cI : ClassId) (nv nb nt nf na lv nm : Nat) (vw vp tw ab am : Nat → Nat) (w : Nat → Int64) (hok : Bok nv nb nt nf na lv nm vw vp tw ab am) (u : ∀ i, i < 9 → n0 ≤ ad i) (wd : Nat) (h1 : 1 ≤ wd) (h4 : wd ≤ 4) (hn : 6 ≤ nv ∨ 10 < nb + wd) : Ft l y_B_variable (wk y_B_variable b_B_variable 2 (some .int)) rt_B_variable D cls [(cL, .long), (cI, .int)] [.ref (ad 0), .int (nI wd)] (bsW ad cL cI nv nb nt nf na lv nm vw vp tw ab am w) (Ze n0) X_ISE (bsW ad cL cI nv nb nt nf na lv nm vw vp tw ab am w) := by
  refine Ft.of (by decide) rfl (Nat.le_of_ble_eq_true rfl) ?_
  intro p e s m below meth c A ls hx hb hml hr hts0 hown hlocks hnone hP hK hD hS hA hAe hX hl
  have hts : ∀ w ∈ lw_ok, w.before _ s = true := fun w h => hts0 w (List.mem_cons_of_mem _ h)
  have hown : s.vm.findClass R_B = some m.cls := hown
  have hP : va_P D cls (bsW ad cL cI nv nb nt nf na lv nm vw vp tw ab am w) s.heap := hP
  have hl : lv_has ls 2 [(0, .ref (ad 0)), (1, .int (nI wd))] := hl
  have hAn : ∀ q, A q → n0 ≤ q := fun q h => by rw [hAe] at h; exact Ze_AB hX u h
  obtain ⟨o_nv, o_nb, o_nt, o_nf, o_na, o_lv, o_nm, o_vw, o_tw, o_am, o_ab⟩ := id hok
  refine lv_iload_n hx hb d_B_variable_0 rfl (lv_at hl 1 rfl) ?_
  refine fn_S (ws' := (bsW ad cL cI nv nb nt nf na lv nm vw vp tw ab am w)) (w1 := (nilW)) (wc := (nilW)) (wr := [(ad 0, .inr (0, [.ref (ad 2), .ref (ad 1), .ref (ad 4), .ref (ad 5), .int (nI nv), .int (nI nb), .ref (ad 6), .int (nI nt), .int (nI nf), .ref (ad 7), .int (nI na), .int (nI lv), .ref (ad 8), .int (nI nm)])), (ad 1, .inr (2, [.ref (ad 2)])), (ad 2, .inr (1, [.ref (ad 3)])), (ad 3, .inl (cL, 4160, .inr (.inl w))), (ad 4, .inl (cI, 6, .inl (fun j => nI (vw j)))), (ad 5, .inl (cI, 6, .inl (fun j => nI (vp j)))), (ad 6, .inl (cI, 50, .inl (fun j => nI (tw j)))), (ad 7, .inl (cI, 6, .inl (fun j => nI (ab j)))), (ad 8, .inl (cI, 8, .inl (fun j => nI (am j))))]) ⟨hx, hb, hml, hown, hts⟩ (c_B_isWidth l D (nI wd)) ⟨callB_of 1 hts (gW wd_146) rfl rfl rfl (hts _ wd_1) (hts _ wd_144) hd_B_isWidth ⟨Nat.le_of_ble_eq_true rfl, Nat.le_of_ble_eq_true rfl⟩, hts _ wd_145⟩ XT_ok (fun _ _ _ => trivial) hK hP hD hS hA [] [] [0, 1, 2, 3, 4, 5, 6, 7, 8] [0, 1, 2, 3, 4, 5, 6, 7, 8] rfl rfl rfl rfl rfl (by decide) rfl rfl rfl hl.1 rfl (Nat.le_of_ble_eq_true rfl) d_B_variable_1 ⟨Nat.zero_le _, Nat.zero_le _⟩ (st1 := [.int (bI (wdB (nI wd)))]) rfl (fun H locs hP hD hS => ?_)
  refine b_if_ne (tgt := 15) hx hb d_B_variable_4 (by decide) (fun c_4 => ?_) (fun c_4 => ?_)
  · refine lv_aload_n hx hb d_B_variable_15 rfl (lv_at hl 0 rfl) ?_
    refine va_get (D := D) (ci := 0) (v := .int (nI nv)) (C := R_B) (T := F_B) (N := 14) hx hb hts in_B hown hK hP 0 rfl rfl 4 (by decide) (hts _ wd_51) (fun _ h9 => h9) rfl d_B_variable_16 ?_
    refine lv_bipush (v := nI 6) hx hb d_B_variable_19 (by decide) ?_
    refine z_icmp_ge (tgt := 35) hx hb (nI_toInt (by omega)) (nI_toInt (by omega)) d_B_variable_21 (by decide) (fun c_21 => ?_) (fun c_21 => ?_)
    · exact ft_throw (n0 := n0) (own := R_B) (E := X_ISE) (names := X_up) hx hb hst hlocks hnone (hl.1.trans hml.symm) hown (by decide +kernel) fit_up (hts _ wd_211) (hts _ wd_9) (at_of at1_ISE at2_ISE hts hX.2.2.2) at3_ISE hX hAn hAe hK hP hD hS (Nat.le_of_ble_eq_true rfl) (Nat.le_of_ble_eq_true rfl) (Nat.le_of_ble_eq_true rfl) (Nat.le_of_ble_eq_true rfl) d_B_variable_35 d_B_variable_38 d_B_variable_39 d_B_variable_42
    · refine lv_aload_n hx hb d_B_variable_24 rfl (lv_at hl 0 rfl) ?_
      refine va_get (D := D) (ci := 0) (v := .int (nI nb)) (C := R_B) (T := F_B) (N := 14) hx hb hts in_B hown hK hP 0 rfl rfl 5 (by decide) (hts _ wd_52) (fun _ h9 => h9) rfl d_B_variable_25 ?_
      refine lv_iload_n hx hb d_B_variable_28 rfl (lv_at hl 1 rfl) ?_
      refine n_add hx hb d_B_variable_29 ?_
      refine lv_bipush (v := nI 10) hx hb d_B_variable_30 (by decide) ?_
      refine z_icmp_le (tgt := 43) hx hb (nI_toInt (by omega)) (nI_toInt (by omega)) d_B_variable_32 (by decide) (fun c_32 => ?_) (fun c_32 => ?_)
      · exact absurd c_32 (by omega)
      · exact ft_throw (n0 := n0) (own := R_B) (E := X_ISE) (names := X_up) hx hb hst hlocks hnone (hl.1.trans hml.symm) hown (by decide +kernel) fit_up (hts _ wd_211) (hts _ wd_9) (at_of at1_ISE at2_ISE hts hX.2.2.2) at3_ISE hX hAn hAe hK hP hD hS (Nat.le_of_ble_eq_true rfl) (Nat.le_of_ble_eq_true rfl) (Nat.le_of_ble_eq_true rfl) (Nat.le_of_ble_eq_true rfl) d_B_variable_35 d_B_variable_38 d_B_variable_39 d_B_variable_42
  · exact absurd (show wdB (nI wd) = true by rw [wdB_I (by omega)]; exact decide_eq_true ⟨h1, h4⟩) (by rw [c_4]; decide)
set_option maxHeartbeats 4000000 in
set_option maxRecDepth 100000 in
theorem e_B_term_1 (l : Launch) (D : va_G) (hst : l.stackTraces = false) (n0 : Nat) (ad : Nat → Nat) (cL cI : ClassId) (nv nb nt nf na lv nm : Nat) (vw vp tw ab am : Nat → Nat) (w : Nat → Int64) (hok : Bok nv nb nt nf na lv nm vw vp tw ab am) (u : ∀ i, i < 9 → n0 ≤ ad i) (kd ka kb kc : Int32) (wd : Nat) (hw : pW nv nt nf vw tw kd ka kb kc = wd) (h0 : wd = 0) : Ft l y_B_term (wk y_B_term b_B_term 6 (some .int)) rt_B_term D cls [(cL, .long), (cI, .int)] [.ref (ad 0), .int kd, .int ka, .int kb, .int kc] (bsW ad cL cI nv nb nt nf na lv nm vw vp tw ab am w) (Ze n0) X_IAE (bsW ad cL cI nv nb nt nf na lv nm vw vp tw ab am w) := by
  refine Ft.of (by decide) rfl (Nat.le_of_ble_eq_true rfl) ?_
  intro p e s m below meth c A ls hx hb hml hr hts0 hown hlocks hnone hP hK hD hS hA hAe hX hl
  have hts : ∀ w ∈ lw_ok, w.before _ s = true := fun w h => hts0 w (List.mem_cons_of_mem _ h)
  have hown : s.vm.findClass R_B = some m.cls := hown
  have hP : va_P D cls (bsW ad cL cI nv nb nt nf na lv nm vw vp tw ab am w) s.heap := hP
  have hl : lv_has ls 6 [(0, .ref (ad 0)), (1, .int kd), (2, .int ka), (3, .int kb), (4, .int kc)] := hl
  have hAn : ∀ q, A q → n0 ≤ q := fun q h => by rw [hAe] at h; exact Ze_AB hX u h
  obtain ⟨o_nv, o_nb, o_nt, o_nf, o_na, o_lv, o_nm, o_vw, o_tw, o_am, o_ab⟩ := id hok
  refine lv_aload_n hx hb d_B_term_0 rfl (lv_at hl 0 rfl) ?_
  refine lv_iload_n hx hb d_B_term_1 rfl (lv_at hl 1 rfl) ?_
  refine lv_iload_n hx hb d_B_term_2 rfl (lv_at hl 2 rfl) ?_
  refine lv_iload_n hx hb d_B_term_3 rfl (lv_at hl 3 rfl) ?_
  refine lv_iload hx hb d_B_term_4 (lv_at hl 4 rfl) ?_
  refine fn_V (ws' := (bsW ad cL cI nv nb nt nf na lv nm vw vp tw ab am w)) (w1 := (bsW ad cL cI nv nb nt nf na lv nm vw vp tw ab am w)) (wc := (bsW ad cL cI nv nb nt nf na lv nm vw vp tw ab am w)) (wr := []) ⟨hx, hb, hml, hown, hts⟩ (c_B_widthToBuild l D ad cL cI nv nb nt nf na lv nm vw vp tw ab am w hok kd ka kb kc) ⟨callB_of 4 hts (gW wd_236) rfl rfl rfl (hts _ wd_1) (hts _ wd_233) hd_B_widthToBuild ⟨Nat.le_of_ble_eq_true rfl, Nat.le_of_ble_eq_true rfl⟩, hts _ wd_235, hts _ wd_p6⟩ XT_ok (fun _ _ _ => trivial) hK hP hD hS hA 0 0 rfl rfl rfl [0, 1] [0, 1, 2, 3, 4, 5, 6, 7, 8] [] [0, 1, 2, 3, 4, 5, 6, 7, 8] rfl rfl rfl rfl rfl (by decide) rfl rfl rfl hl.1 rfl (Nat.le_of_ble_eq_true rfl) d_B_term_6 ⟨Nat.zero_le _, Nat.zero_le _⟩ (st1 := [.int (nI (pW nv nt nf vw tw kd ka kb kc))]) rfl (fun H locs hP hD hS => ?_)
  rw [hw]
  refine lv_istore (lv' := [(5, .int (nI wd)), (0, .ref (ad 0)), (1, .int kd), (2, .int ka), (3, .int kb), (4, .int kc)]) hx hb d_B_term_9 hl (by decide) rfl (fun ls hl => ?_)
  refine lv_iload hx hb d_B_term_11 (lv_at hl 0 rfl) ?_
  refine z_if_ne (tgt := 24) hx hb (nI_toInt (by omega)) d_B_term_13 (by decide) (fun c_13 => ?_) (fun c_13 => ?_)
  · exact absurd c_13 (by omega)
  · exact ft_throw (n0 := n0) (own := R_B) (E := X_IAE) (names := X_up) hx hb hst hlocks hnone (hl.1.trans hml.symm) hown (by decide +kernel) fit_up (hts _ wd_147) (hts _ wd_8) (at_of at1_IAE at2_IAE hts hX.2.2.2) at3_IAE hX hAn hAe hK hP hD hS (Nat.le_of_ble_eq_true rfl) (Nat.le_of_ble_eq_true rfl) (Nat.le_of_ble_eq_true rfl) (Nat.le_of_ble_eq_true rfl) d_B_term_16 d_B_term_19 d_B_term_20 d_B_term_23
set_option maxHeartbeats 4000000 in
set_option maxRecDepth 100000 in
theorem e_B_term_2 (l : Launch) (D : va_G) (hst : l.stackTraces = false) (n0 : Nat) (ad : Nat → Nat) (cL cI : ClassId) (nv nb nt nf na lv nm : Nat) (vw vp tw ab am : Nat → Nat) (w : Nat → Int64) (hok : Bok nv nb nt nf na lv nm vw vp tw ab am) (u : ∀ i, i < 9 → n0 ≤ ad i) (kd ka kb kc : Int32) (wd : Nat) (hw : pW nv nt nf vw tw kd ka kb kc = wd) (h0 : 0 < wd) (h4 : wd ≤ 4) (hn : 50 ≤ nt) : Ft l y_B_term (wk y_B_term b_B_term 6 (some .int)) rt_B_term D cls [(cL, .long), (cI, .int)] [.ref (ad 0), .int kd, .int ka, .int kb, .int kc] (bsW ad cL cI nv nb nt nf na lv nm vw vp tw ab am w) (Ze n0) X_ISE (bsW ad cL cI nv nb nt nf na lv nm vw vp tw ab am w) := by
  refine Ft.of (by decide) rfl (Nat.le_of_ble_eq_true rfl) ?_
  intro p e s m below meth c A ls hx hb hml hr hts0 hown hlocks hnone hP hK hD hS hA hAe hX hl
  have hts : ∀ w ∈ lw_ok, w.before _ s = true := fun w h => hts0 w (List.mem_cons_of_mem _ h)
  have hown : s.vm.findClass R_B = some m.cls := hown
  have hP : va_P D cls (bsW ad cL cI nv nb nt nf na lv nm vw vp tw ab am w) s.heap := hP
  have hl : lv_has ls 6 [(0, .ref (ad 0)), (1, .int kd), (2, .int ka), (3, .int kb), (4, .int kc)] := hl
  have hAn : ∀ q, A q → n0 ≤ q := fun q h => by rw [hAe] at h; exact Ze_AB hX u h
  obtain ⟨o_nv, o_nb, o_nt, o_nf, o_na, o_lv, o_nm, o_vw, o_tw, o_am, o_ab⟩ := id hok
  refine lv_aload_n hx hb d_B_term_0 rfl (lv_at hl 0 rfl) ?_
  refine lv_iload_n hx hb d_B_term_1 rfl (lv_at hl 1 rfl) ?_
  refine lv_iload_n hx hb d_B_term_2 rfl (lv_at hl 2 rfl) ?_
  refine lv_iload_n hx hb d_B_term_3 rfl (lv_at hl 3 rfl) ?_
  refine lv_iload hx hb d_B_term_4 (lv_at hl 4 rfl) ?_
  refine fn_V (ws' := (bsW ad cL cI nv nb nt nf na lv nm vw vp tw ab am w)) (w1 := (bsW ad cL cI nv nb nt nf na lv nm vw vp tw ab am w)) (wc := (bsW ad cL cI nv nb nt nf na lv nm vw vp tw ab am w)) (wr := []) ⟨hx, hb, hml, hown, hts⟩ (c_B_widthToBuild l D ad cL cI nv nb nt nf na lv nm vw vp tw ab am w hok kd ka kb kc) ⟨callB_of 4 hts (gW wd_236) rfl rfl rfl (hts _ wd_1) (hts _ wd_233) hd_B_widthToBuild ⟨Nat.le_of_ble_eq_true rfl, Nat.le_of_ble_eq_true rfl⟩, hts _ wd_235, hts _ wd_p6⟩ XT_ok (fun _ _ _ => trivial) hK hP hD hS hA 0 0 rfl rfl rfl [0, 1] [0, 1, 2, 3, 4, 5, 6, 7, 8] [] [0, 1, 2, 3, 4, 5, 6, 7, 8] rfl rfl rfl rfl rfl (by decide) rfl rfl rfl hl.1 rfl (Nat.le_of_ble_eq_true rfl) d_B_term_6 ⟨Nat.zero_le _, Nat.zero_le _⟩ (st1 := [.int (nI (pW nv nt nf vw tw kd ka kb kc))]) rfl (fun H locs hP hD hS => ?_)
  rw [hw]
  refine lv_istore (lv' := [(5, .int (nI wd)), (0, .ref (ad 0)), (1, .int kd), (2, .int ka), (3, .int kb), (4, .int kc)]) hx hb d_B_term_9 hl (by decide) rfl (fun ls hl => ?_)
  refine lv_iload hx hb d_B_term_11 (lv_at hl 0 rfl) ?_
  refine z_if_ne (tgt := 24) hx hb (nI_toInt (by omega)) d_B_term_13 (by decide) (fun c_13 => ?_) (fun c_13 => ?_)
  · refine lv_aload_n hx hb d_B_term_24 rfl (lv_at hl 1 rfl) ?_
    refine va_get (D := D) (ci := 0) (v := .int (nI nt)) (C := R_B) (T := F_B) (N := 14) hx hb hts in_B hown hK hP 0 rfl rfl 7 (by decide) (hts _ wd_54) (fun _ h9 => h9) rfl d_B_term_25 ?_
    refine lv_bipush (v := nI 50) hx hb d_B_term_28 (by decide) ?_
    refine z_icmp_lt (tgt := 41) hx hb (nI_toInt (by omega)) (nI_toInt (by omega)) d_B_term_30 (by decide) (fun c_30 => ?_) (fun c_30 => ?_)
    · exact absurd c_30 (by omega)
    · exact ft_throw (n0 := n0) (own := R_B) (E := X_ISE) (names := X_up) hx hb hst hlocks hnone (hl.1.trans hml.symm) hown (by decide +kernel) fit_up (hts _ wd_211) (hts _ wd_9) (at_of at1_ISE at2_ISE hts hX.2.2.2) at3_ISE hX hAn hAe hK hP hD hS (Nat.le_of_ble_eq_true rfl) (Nat.le_of_ble_eq_true rfl) (Nat.le_of_ble_eq_true rfl) (Nat.le_of_ble_eq_true rfl) d_B_term_33 d_B_term_36 d_B_term_37 d_B_term_40
  · exact absurd c_13 (by omega)
set_option maxHeartbeats 4000000 in
set_option maxRecDepth 100000 in
theorem e_B_formula_1 (l : Launch) (D : va_G) (hst : l.stackTraces = false) (n0 : Nat) (ad : Nat → Nat) (cL cI : ClassId) (nv nb nt nf na lv nm : Nat) (vw vp tw ab am : Nat → Nat) (w : Nat → Int64) (hok : Bok nv nb nt nf na lv nm vw vp tw ab am) (u : ∀ i, i < 9 → n0 ≤ ad i) (kd ka kb : Int32) (hf : pF nt nf tw kd ka kb = false) : Ft l y_B_formula (wk y_B_formula b_B_formula 4 (some .int)) rt_B_formula D cls [(cL, .long), (cI, .int)] [.ref (ad 0), .int kd, .int ka, .int kb] (bsW ad cL cI nv nb nt nf na lv nm vw vp tw ab am w) (Ze n0) X_IAE (bsW ad cL cI nv nb nt nf na lv nm vw vp tw ab am w) := by
  refine Ft.of (by decide) rfl (Nat.le_of_ble_eq_true rfl) ?_
  intro p e s m below meth c A ls hx hb hml hr hts0 hown hlocks hnone hP hK hD hS hA hAe hX hl
  have hts : ∀ w ∈ lw_ok, w.before _ s = true := fun w h => hts0 w (List.mem_cons_of_mem _ h)
  have hown : s.vm.findClass R_B = some m.cls := hown
  have hP : va_P D cls (bsW ad cL cI nv nb nt nf na lv nm vw vp tw ab am w) s.heap := hP
  have hl : lv_has ls 4 [(0, .ref (ad 0)), (1, .int kd), (2, .int ka), (3, .int kb)] := hl
  have hAn : ∀ q, A q → n0 ≤ q := fun q h => by rw [hAe] at h; exact Ze_AB hX u h
  obtain ⟨o_nv, o_nb, o_nt, o_nf, o_na, o_lv, o_nm, o_vw, o_tw, o_am, o_ab⟩ := id hok
  refine lv_aload_n hx hb d_B_formula_0 rfl (lv_at hl 0 rfl) ?_
  refine lv_iload_n hx hb d_B_formula_1 rfl (lv_at hl 1 rfl) ?_
  refine lv_iload_n hx hb d_B_formula_2 rfl (lv_at hl 2 rfl) ?_
  refine lv_iload_n hx hb d_B_formula_3 rfl (lv_at hl 3 rfl) ?_
  refine fn_V (ws' := (bsW ad cL cI nv nb nt nf na lv nm vw vp tw ab am w)) (w1 := (bsW ad cL cI nv nb nt nf na lv nm vw vp tw ab am w)) (wc := (bsW ad cL cI nv nb nt nf na lv nm vw vp tw ab am w)) (wr := []) ⟨hx, hb, hml, hown, hts⟩ (c_B_canBuildFormula l D ad cL cI nv nb nt nf na lv nm vw vp tw ab am w hok kd ka kb) ⟨callB_of 3 hts (gW wd_353) rfl rfl rfl (hts _ wd_1) (hts _ wd_350) hd_B_canBuildFormula ⟨Nat.le_of_ble_eq_true rfl, Nat.le_of_ble_eq_true rfl⟩, hts _ wd_352, hts _ wd_p19⟩ XT_ok (fun _ _ _ => trivial) hK hP hD hS hA 0 0 rfl rfl rfl [0, 1] [0, 1, 2, 3, 4, 5, 6, 7, 8] [] [0, 1, 2, 3, 4, 5, 6, 7, 8] rfl rfl rfl rfl rfl (by decide) rfl rfl rfl hl.1 rfl (Nat.le_of_ble_eq_true rfl) d_B_formula_4 ⟨Nat.zero_le _, Nat.zero_le _⟩ (st1 := [.int (bI (pF nt nf tw kd ka kb))]) rfl (fun H locs hP hD hS => ?_)
  refine b_if_ne (tgt := 18) hx hb d_B_formula_7 (by decide) (fun c_7 => ?_) (fun c_7 => ?_)
  · exact absurd c_7 (by rw [hf]; decide)
  · exact ft_throw (n0 := n0) (own := R_B) (E := X_IAE) (names := X_up) hx hb hst hlocks hnone (hl.1.trans hml.symm) hown (by decide +kernel) fit_up (hts _ wd_147) (hts _ wd_8) (at_of at1_IAE at2_IAE hts hX.2.2.2) at3_IAE hX hAn hAe hK hP hD hS (Nat.le_of_ble_eq_true rfl) (Nat.le_of_ble_eq_true rfl) (Nat.le_of_ble_eq_true rfl) (Nat.le_of_ble_eq_true rfl) d_B_formula_10 d_B_formula_13 d_B_formula_14 d_B_formula_17
set_option maxHeartbeats 4000000 in
set_option maxRecDepth 100000 in
theorem e_B_formula_2 (l : Launch) (D : va_G) (hst : l.stackTraces = false) (n0 : Nat) (ad : Nat → Nat) (cL cI : ClassId) (nv nb nt nf na lv nm : Nat) (vw vp tw ab am : Nat → Nat) (w : Nat → Int64) (hok : Bok nv nb nt nf na lv nm vw vp tw ab am) (u : ∀ i, i < 9 → n0 ≤ ad i) (kd ka kb : Int32) (hf : pF nt nf tw kd ka kb = true) (hn : 50 ≤ nf) : Ft l y_B_formula (wk y_B_formula b_B_formula 4 (some .int)) rt_B_formula D cls [(cL, .long), (cI, .int)] [.ref (ad 0), .int kd, .int ka, .int kb] (bsW ad cL cI nv nb nt nf na lv nm vw vp tw ab am w) (Ze n0) X_ISE (bsW ad cL cI nv nb nt nf na lv nm vw vp tw ab am w) := by
  refine Ft.of (by decide) rfl (Nat.le_of_ble_eq_true rfl) ?_
  intro p e s m below meth c A ls hx hb hml hr hts0 hown hlocks hnone hP hK hD hS hA hAe hX hl
  have hts : ∀ w ∈ lw_ok, w.before _ s = true := fun w h => hts0 w (List.mem_cons_of_mem _ h)
  have hown : s.vm.findClass R_B = some m.cls := hown
  have hP : va_P D cls (bsW ad cL cI nv nb nt nf na lv nm vw vp tw ab am w) s.heap := hP
  have hl : lv_has ls 4 [(0, .ref (ad 0)), (1, .int kd), (2, .int ka), (3, .int kb)] := hl
  have hAn : ∀ q, A q → n0 ≤ q := fun q h => by rw [hAe] at h; exact Ze_AB hX u h
  obtain ⟨o_nv, o_nb, o_nt, o_nf, o_na, o_lv, o_nm, o_vw, o_tw, o_am, o_ab⟩ := id hok
  refine lv_aload_n hx hb d_B_formula_0 rfl (lv_at hl 0 rfl) ?_
  refine lv_iload_n hx hb d_B_formula_1 rfl (lv_at hl 1 rfl) ?_
  refine lv_iload_n hx hb d_B_formula_2 rfl (lv_at hl 2 rfl) ?_
  refine lv_iload_n hx hb d_B_formula_3 rfl (lv_at hl 3 rfl) ?_
  refine fn_V (ws' := (bsW ad cL cI nv nb nt nf na lv nm vw vp tw ab am w)) (w1 := (bsW ad cL cI nv nb nt nf na lv nm vw vp tw ab am w)) (wc := (bsW ad cL cI nv nb nt nf na lv nm vw vp tw ab am w)) (wr := []) ⟨hx, hb, hml, hown, hts⟩ (c_B_canBuildFormula l D ad cL cI nv nb nt nf na lv nm vw vp tw ab am w hok kd ka kb) ⟨callB_of 3 hts (gW wd_353) rfl rfl rfl (hts _ wd_1) (hts _ wd_350) hd_B_canBuildFormula ⟨Nat.le_of_ble_eq_true rfl, Nat.le_of_ble_eq_true rfl⟩, hts _ wd_352, hts _ wd_p19⟩ XT_ok (fun _ _ _ => trivial) hK hP hD hS hA 0 0 rfl rfl rfl [0, 1] [0, 1, 2, 3, 4, 5, 6, 7, 8] [] [0, 1, 2, 3, 4, 5, 6, 7, 8] rfl rfl rfl rfl rfl (by decide) rfl rfl rfl hl.1 rfl (Nat.le_of_ble_eq_true rfl) d_B_formula_4 ⟨Nat.zero_le _, Nat.zero_le _⟩ (st1 := [.int (bI (pF nt nf tw kd ka kb))]) rfl (fun H locs hP hD hS => ?_)
  refine b_if_ne (tgt := 18) hx hb d_B_formula_7 (by decide) (fun c_7 => ?_) (fun c_7 => ?_)
  · refine lv_aload_n hx hb d_B_formula_18 rfl (lv_at hl 0 rfl) ?_
    refine va_get (D := D) (ci := 0) (v := .int (nI nf)) (C := R_B) (T := F_B) (N := 14) hx hb hts in_B hown hK hP 0 rfl rfl 8 (by decide) (hts _ wd_55) (fun _ h9 => h9) rfl d_B_formula_19 ?_
    refine lv_bipush (v := nI 50) hx hb d_B_formula_22 (by decide) ?_
    refine z_icmp_lt (tgt := 35) hx hb (nI_toInt (by omega)) (nI_toInt (by omega)) d_B_formula_24 (by decide) (fun c_24 => ?_) (fun c_24 => ?_)
    · exact absurd c_24 (by omega)
    · exact ft_throw (n0 := n0) (own := R_B) (E := X_ISE) (names := X_up) hx hb hst hlocks hnone (hl.1.trans hml.symm) hown (by decide +kernel) fit_up (hts _ wd_211) (hts _ wd_9) (at_of at1_ISE at2_ISE hts hX.2.2.2) at3_ISE hX hAn hAe hK hP hD hS (Nat.le_of_ble_eq_true rfl) (Nat.le_of_ble_eq_true rfl) (Nat.le_of_ble_eq_true rfl) (Nat.le_of_ble_eq_true rfl) d_B_formula_27 d_B_formula_30 d_B_formula_31 d_B_formula_34
  · exact absurd hf (by rw [c_7]; decide)
set_option maxHeartbeats 4000000 in
set_option maxRecDepth 100000 in
theorem e_B_assertion_1 (l : Launch) (D : va_G) (hst : l.stackTraces = false) (n0 : Nat) (ad : Nat → Nat) (cL cI : ClassId) (nv nb nt nf na lv nm : Nat) (vw vp tw ab am : Nat → Nat) (w : Nat → Int64) (hok : Bok nv nb nt nf na lv nm vw vp tw ab am) (u : ∀ i, i < 9 → n0 ≤ ad i) (x : Int32) (hf : hasB x nf = false) : Ft l y_B_assertion (wk y_B_assertion b_B_assertion 2 (some .int)) rt_B_assertion D cls [(cL, .long), (cI, .int)] [.ref (ad 0), .int x] (bsW ad cL cI nv nb nt nf na lv nm vw vp tw ab am w) (Ze n0) X_NSE (bsW ad cL cI nv nb nt nf na lv nm vw vp tw ab am w) := by
  refine Ft.of (by decide) rfl (Nat.le_of_ble_eq_true rfl) ?_
  intro p e s m below meth c A ls hx hb hml hr hts0 hown hlocks hnone hP hK hD hS hA hAe hX hl
  have hts : ∀ w ∈ lw_ok, w.before _ s = true := fun w h => hts0 w (List.mem_cons_of_mem _ h)
  have hown : s.vm.findClass R_B = some m.cls := hown
  have hP : va_P D cls (bsW ad cL cI nv nb nt nf na lv nm vw vp tw ab am w) s.heap := hP
  have hl : lv_has ls 2 [(0, .ref (ad 0)), (1, .int x)] := hl
  have hAn : ∀ q, A q → n0 ≤ q := fun q h => by rw [hAe] at h; exact Ze_AB hX u h
  obtain ⟨o_nv, o_nb, o_nt, o_nf, o_na, o_lv, o_nm, o_vw, o_tw, o_am, o_ab⟩ := id hok
  refine lv_aload_n hx hb d_B_assertion_0 rfl (lv_at hl 0 rfl) ?_
  refine lv_iload_n hx hb d_B_assertion_1 rfl (lv_at hl 1 rfl) ?_
  refine fn_V (ws' := (bsW ad cL cI nv nb nt nf na lv nm vw vp tw ab am w)) (w1 := (bsW ad cL cI nv nb nt nf na lv nm vw vp tw ab am w)) (wc := (bsW ad cL cI nv nb nt nf na lv nm vw vp tw ab am w)) (wr := []) ⟨hx, hb, hml, hown, hts⟩ (c_B_hasFormula l D ad cL cI nv nb nt nf na lv nm vw vp tw ab am w hok x) ⟨callB_of 1 hts (gW wd_256) rfl rfl rfl (hts _ wd_1) (hts _ wd_253) hd_B_hasFormula ⟨Nat.le_of_ble_eq_true rfl, Nat.le_of_ble_eq_true rfl⟩, hts _ wd_255, hts _ wd_p11⟩ XT_ok (fun _ _ _ => trivial) hK hP hD hS hA 0 0 rfl rfl rfl [0, 1] [0, 1, 2, 3, 4, 5, 6, 7, 8] [] [0, 1, 2, 3, 4, 5, 6, 7, 8] rfl rfl rfl rfl rfl (by decide) rfl rfl rfl hl.1 rfl (Nat.le_of_ble_eq_true rfl) d_B_assertion_2 ⟨Nat.zero_le _, Nat.zero_le _⟩ (st1 := [.int (bI (hasB x nf))]) rfl (fun H locs hP hD hS => ?_)
  refine b_if_ne (tgt := 16) hx hb d_B_assertion_5 (by decide) (fun c_5 => ?_) (fun c_5 => ?_)
  · exact absurd c_5 (by rw [hf]; decide)
  · exact ft_throw (n0 := n0) (own := R_B) (E := X_NSE) (names := X_up) hx hb hst hlocks hnone (hl.1.trans hml.symm) hown (by decide +kernel) fit_up (hts _ wd_387) (hts _ wd_10) (at_of at1_NSE at2_NSE hts hX.2.2.2) at3_NSE hX hAn hAe hK hP hD hS (Nat.le_of_ble_eq_true rfl) (Nat.le_of_ble_eq_true rfl) (Nat.le_of_ble_eq_true rfl) (Nat.le_of_ble_eq_true rfl) d_B_assertion_8 d_B_assertion_11 d_B_assertion_12 d_B_assertion_15
set_option maxHeartbeats 4000000 in
set_option maxRecDepth 100000 in
theorem e_B_assertion_2 (l : Launch) (D : va_G) (hst : l.stackTraces = false) (n0 : Nat) (ad : Nat → Nat) (cL cI : ClassId) (nv nb nt nf na lv nm : Nat) (vw vp tw ab am : Nat → Nat) (w : Nat → Int64) (hok : Bok nv nb nt nf na lv nm vw vp tw ab am) (u : ∀ i, i < 9 → n0 ≤ ad i) (x : Int32) (hf : hasB x nf = true) (hn : 30 ≤ na) : Ft l y_B_assertion (wk y_B_assertion b_B_assertion 2 (some .int)) rt_B_assertion D cls [(cL, .long), (cI, .int)] [.ref (ad 0), .int x] (bsW ad cL cI nv nb nt nf na lv nm vw vp tw ab am w) (Ze n0) X_ISE (bsW ad cL cI nv nb nt nf na lv nm vw vp tw ab am w) := by
  refine Ft.of (by decide) rfl (Nat.le_of_ble_eq_true rfl) ?_
  intro p e s m below meth c A ls hx hb hml hr hts0 hown hlocks hnone hP hK hD hS hA hAe hX hl
  have hts : ∀ w ∈ lw_ok, w.before _ s = true := fun w h => hts0 w (List.mem_cons_of_mem _ h)
  have hown : s.vm.findClass R_B = some m.cls := hown
  have hP : va_P D cls (bsW ad cL cI nv nb nt nf na lv nm vw vp tw ab am w) s.heap := hP
  have hl : lv_has ls 2 [(0, .ref (ad 0)), (1, .int x)] := hl
  have hAn : ∀ q, A q → n0 ≤ q := fun q h => by rw [hAe] at h; exact Ze_AB hX u h
  obtain ⟨o_nv, o_nb, o_nt, o_nf, o_na, o_lv, o_nm, o_vw, o_tw, o_am, o_ab⟩ := id hok
  refine lv_aload_n hx hb d_B_assertion_0 rfl (lv_at hl 0 rfl) ?_
  refine lv_iload_n hx hb d_B_assertion_1 rfl (lv_at hl 1 rfl) ?_
  refine fn_V (ws' := (bsW ad cL cI nv nb nt nf na lv nm vw vp tw ab am w)) (w1 := (bsW ad cL cI nv nb nt nf na lv nm vw vp tw ab am w)) (wc := (bsW ad cL cI nv nb nt nf na lv nm vw vp tw ab am w)) (wr := []) ⟨hx, hb, hml, hown, hts⟩ (c_B_hasFormula l D ad cL cI nv nb nt nf na lv nm vw vp tw ab am w hok x) ⟨callB_of 1 hts (gW wd_256) rfl rfl rfl (hts _ wd_1) (hts _ wd_253) hd_B_hasFormula ⟨Nat.le_of_ble_eq_true rfl, Nat.le_of_ble_eq_true rfl⟩, hts _ wd_255, hts _ wd_p11⟩ XT_ok (fun _ _ _ => trivial) hK hP hD hS hA 0 0 rfl rfl rfl [0, 1] [0, 1, 2, 3, 4, 5, 6, 7, 8] [] [0, 1, 2, 3, 4, 5, 6, 7, 8] rfl rfl rfl rfl rfl (by decide) rfl rfl rfl hl.1 rfl (Nat.le_of_ble_eq_true rfl) d_B_assertion_2 ⟨Nat.zero_le _, Nat.zero_le _⟩ (st1 := [.int (bI (hasB x nf))]) rfl (fun H locs hP hD hS => ?_)
  refine b_if_ne (tgt := 16) hx hb d_B_assertion_5 (by decide) (fun c_5 => ?_) (fun c_5 => ?_)
  · refine lv_aload_n hx hb d_B_assertion_16 rfl (lv_at hl 0 rfl) ?_
    refine va_get (D := D) (ci := 0) (v := .int (nI na)) (C := R_B) (T := F_B) (N := 14) hx hb hts in_B hown hK hP 0 rfl rfl 10 (by decide) (hts _ wd_57) (fun _ h9 => h9) rfl d_B_assertion_17 ?_
    refine lv_bipush (v := nI 30) hx hb d_B_assertion_20 (by decide) ?_
    refine z_icmp_lt (tgt := 33) hx hb (nI_toInt (by omega)) (nI_toInt (by omega)) d_B_assertion_22 (by decide) (fun c_22 => ?_) (fun c_22 => ?_)
    · exact absurd c_22 (by omega)
    · exact ft_throw (n0 := n0) (own := R_B) (E := X_ISE) (names := X_up) hx hb hst hlocks hnone (hl.1.trans hml.symm) hown (by decide +kernel) fit_up (hts _ wd_211) (hts _ wd_9) (at_of at1_ISE at2_ISE hts hX.2.2.2) at3_ISE hX hAn hAe hK hP hD hS (Nat.le_of_ble_eq_true rfl) (Nat.le_of_ble_eq_true rfl) (Nat.le_of_ble_eq_true rfl) (Nat.le_of_ble_eq_true rfl) d_B_assertion_25 d_B_assertion_28 d_B_assertion_29 d_B_assertion_32
  · exact absurd hf (by rw [c_5]; decide)
set_option maxHeartbeats 4000000 in
set_option maxRecDepth 100000 in
theorem e_B_assume_1 (l : Launch) (D : va_G) (hst : l.stackTraces = false) (n0 : Nat) (ad : Nat → Nat) (cL cI : ClassId) (nv nb nt nf na lv nm : Nat) (vw vp tw ab am : Nat → Nat) (w : Nat → Int64) (hok : Bok nv nb nt nf na lv nm vw vp tw ab am) (u : ∀ i, i < 9 → n0 ≤ ad i) (x : Int32) (hf : hasB x nf = false) : Ft l y_B_assume (wk y_B_assume b_B_assume 2 (some .int)) rt_B_assume D cls [(cL, .long), (cI, .int)] [.ref (ad 0), .int x] (bsW ad cL cI nv nb nt nf na lv nm vw vp tw ab am w) (Ze n0) X_NSE (bsW ad cL cI nv nb nt nf na lv nm vw vp tw ab am w) := by
  refine Ft.of (by decide) rfl (Nat.le_of_ble_eq_true rfl) ?_
  intro p e s m below meth c A ls hx hb hml hr hts0 hown hlocks hnone hP hK hD hS hA hAe hX hl
  have hts : ∀ w ∈ lw_ok, w.before _ s = true := fun w h => hts0 w (List.mem_cons_of_mem _ h)
  have hown : s.vm.findClass R_B = some m.cls := hown
  have hP : va_P D cls (bsW ad cL cI nv nb nt nf na lv nm vw vp tw ab am w) s.heap := hP
  have hl : lv_has ls 2 [(0, .ref (ad 0)), (1, .int x)] := hl
  have hAn : ∀ q, A q → n0 ≤ q := fun q h => by rw [hAe] at h; exact Ze_AB hX u h
  obtain ⟨o_nv, o_nb, o_nt, o_nf, o_na, o_lv, o_nm, o_vw, o_tw, o_am, o_ab⟩ := id hok
  refine lv_aload_n hx hb d_B_assume_0 rfl (lv_at hl 0 rfl) ?_
  refine lv_iload_n hx hb d_B_assume_1 rfl (lv_at hl 1 rfl) ?_
  refine fn_V (ws' := (bsW ad cL cI nv nb nt nf na lv nm vw vp tw ab am w)) (w1 := (bsW ad cL cI nv nb nt nf na lv nm vw vp tw ab am w)) (wc := (bsW ad cL cI nv nb nt nf na lv nm vw vp tw ab am w)) (wr := []) ⟨hx, hb, hml, hown, hts⟩ (c_B_hasFormula l D ad cL cI nv nb nt nf na lv nm vw vp tw ab am w hok x) ⟨callB_of 1 hts (gW wd_256) rfl rfl rfl (hts _ wd_1) (hts _ wd_253) hd_B_hasFormula ⟨Nat.le_of_ble_eq_true rfl, Nat.le_of_ble_eq_true rfl⟩, hts _ wd_255, hts _ wd_p11⟩ XT_ok (fun _ _ _ => trivial) hK hP hD hS hA 0 0 rfl rfl rfl [0, 1] [0, 1, 2, 3, 4, 5, 6, 7, 8] [] [0, 1, 2, 3, 4, 5, 6, 7, 8] rfl rfl rfl rfl rfl (by decide) rfl rfl rfl hl.1 rfl (Nat.le_of_ble_eq_true rfl) d_B_assume_2 ⟨Nat.zero_le _, Nat.zero_le _⟩ (st1 := [.int (bI (hasB x nf))]) rfl (fun H locs hP hD hS => ?_)
  refine b_if_ne (tgt := 16) hx hb d_B_assume_5 (by decide) (fun c_5 => ?_) (fun c_5 => ?_)
  · exact absurd c_5 (by rw [hf]; decide)
  · exact ft_throw (n0 := n0) (own := R_B) (E := X_NSE) (names := X_up) hx hb hst hlocks hnone (hl.1.trans hml.symm) hown (by decide +kernel) fit_up (hts _ wd_387) (hts _ wd_10) (at_of at1_NSE at2_NSE hts hX.2.2.2) at3_NSE hX hAn hAe hK hP hD hS (Nat.le_of_ble_eq_true rfl) (Nat.le_of_ble_eq_true rfl) (Nat.le_of_ble_eq_true rfl) (Nat.le_of_ble_eq_true rfl) d_B_assume_8 d_B_assume_11 d_B_assume_12 d_B_assume_15
set_option maxHeartbeats 4000000 in
set_option maxRecDepth 100000 in
theorem e_B_assume_2 (l : Launch) (D : va_G) (hst : l.stackTraces = false) (n0 : Nat) (ad : Nat → Nat) (cL cI : ClassId) (nv nb nt nf na lv nm : Nat) (vw vp tw ab am : Nat → Nat) (w : Nat → Int64) (hok : Bok nv nb nt nf na lv nm vw vp tw ab am) (u : ∀ i, i < 9 → n0 ≤ ad i) (x : Int32) (hf : hasB x nf = true) (hn : 8 ≤ nm) : Ft l y_B_assume (wk y_B_assume b_B_assume 2 (some .int)) rt_B_assume D cls [(cL, .long), (cI, .int)] [.ref (ad 0), .int x] (bsW ad cL cI nv nb nt nf na lv nm vw vp tw ab am w) (Ze n0) X_ISE (bsW ad cL cI nv nb nt nf na lv nm vw vp tw ab am w) := by
  refine Ft.of (by decide) rfl (Nat.le_of_ble_eq_true rfl) ?_
  intro p e s m below meth c A ls hx hb hml hr hts0 hown hlocks hnone hP hK hD hS hA hAe hX hl
  have hts : ∀ w ∈ lw_ok, w.before _ s = true := fun w h => hts0 w (List.mem_cons_of_mem _ h)
  have hown : s.vm.findClass R_B = some m.cls := hown
  have hP : va_P D cls (bsW ad cL cI nv nb nt nf na lv nm vw vp tw ab am w) s.heap := hP
  have hl : lv_has ls 2 [(0, .ref (ad 0)), (1, .int x)] := hl
  have hAn : ∀ q, A q → n0 ≤ q := fun q h => by rw [hAe] at h; exact Ze_AB hX u h
  obtain ⟨o_nv, o_nb, o_nt, o_nf, o_na, o_lv, o_nm, o_vw, o_tw, o_am, o_ab⟩ := id hok
  refine lv_aload_n hx hb d_B_assume_0 rfl (lv_at hl 0 rfl) ?_
  refine lv_iload_n hx hb d_B_assume_1 rfl (lv_at hl 1 rfl) ?_
  refine fn_V (ws' := (bsW ad cL cI nv nb nt nf na lv nm vw vp tw ab am w)) (w1 := (bsW ad cL cI nv nb nt nf na lv nm vw vp tw ab am w)) (wc := (bsW ad cL cI nv nb nt nf na lv nm vw vp tw ab am w)) (wr := []) ⟨hx, hb, hml, hown, hts⟩ (c_B_hasFormula l D ad cL cI nv nb nt nf na lv nm vw vp tw ab am w hok x) ⟨callB_of 1 hts (gW wd_256) rfl rfl rfl (hts _ wd_1) (hts _ wd_253) hd_B_hasFormula ⟨Nat.le_of_ble_eq_true rfl, Nat.le_of_ble_eq_true rfl⟩, hts _ wd_255, hts _ wd_p11⟩ XT_ok (fun _ _ _ => trivial) hK hP hD hS hA 0 0 rfl rfl rfl [0, 1] [0, 1, 2, 3, 4, 5, 6, 7, 8] [] [0, 1, 2, 3, 4, 5, 6, 7, 8] rfl rfl rfl rfl rfl (by decide) rfl rfl rfl hl.1 rfl (Nat.le_of_ble_eq_true rfl) d_B_assume_2 ⟨Nat.zero_le _, Nat.zero_le _⟩ (st1 := [.int (bI (hasB x nf))]) rfl (fun H locs hP hD hS => ?_)
  refine b_if_ne (tgt := 16) hx hb d_B_assume_5 (by decide) (fun c_5 => ?_) (fun c_5 => ?_)
  · refine lv_aload_n hx hb d_B_assume_16 rfl (lv_at hl 0 rfl) ?_
    refine va_get (D := D) (ci := 0) (v := .int (nI nm)) (C := R_B) (T := F_B) (N := 14) hx hb hts in_B hown hK hP 0 rfl rfl 13 (by decide) (hts _ wd_60) (fun _ h9 => h9) rfl d_B_assume_17 ?_
    refine lv_bipush (v := nI 8) hx hb d_B_assume_20 (by decide) ?_
    refine z_icmp_lt (tgt := 33) hx hb (nI_toInt (by omega)) (nI_toInt (by omega)) d_B_assume_22 (by decide) (fun c_22 => ?_) (fun c_22 => ?_)
    · exact absurd c_22 (by omega)
    · exact ft_throw (n0 := n0) (own := R_B) (E := X_ISE) (names := X_up) hx hb hst hlocks hnone (hl.1.trans hml.symm) hown (by decide +kernel) fit_up (hts _ wd_211) (hts _ wd_9) (at_of at1_ISE at2_ISE hts hX.2.2.2) at3_ISE hX hAn hAe hK hP hD hS (Nat.le_of_ble_eq_true rfl) (Nat.le_of_ble_eq_true rfl) (Nat.le_of_ble_eq_true rfl) (Nat.le_of_ble_eq_true rfl) d_B_assume_25 d_B_assume_28 d_B_assume_29 d_B_assume_32
  · exact absurd hf (by rw [c_5]; decide)
set_option maxHeartbeats 4000000 in
set_option maxRecDepth 100000 in
theorem e_B_push_1 (l : Launch) (D : va_G) (hst : l.stackTraces = false) (n0 : Nat) (ad : Nat → Nat) (cL cI : ClassId) (nv nb nt nf na lv nm : Nat) (vw vp tw ab am : Nat → Nat) (w : Nat → Int64) (hok : Bok nv nb nt nf na lv nm vw vp tw ab am) (u : ∀ i, i < 9 → n0 ≤ ad i) (hn : 5 ≤ lv) : Ft l y_B_push (wk y_B_push b_B_push 1 (some .int)) rt_B_push D cls [(cL, .long), (cI, .int)] [.ref (ad 0)] (bsW ad cL cI nv nb nt nf na lv nm vw vp tw ab am w) (Ze n0) X_ISE (bsW ad cL cI nv nb nt nf na lv nm vw vp tw ab am w) := by
  refine Ft.of (by decide) rfl (Nat.le_of_ble_eq_true rfl) ?_
  intro p e s m below meth c A ls hx hb hml hr hts0 hown hlocks hnone hP hK hD hS hA hAe hX hl
  have hts : ∀ w ∈ lw_ok, w.before _ s = true := fun w h => hts0 w (List.mem_cons_of_mem _ h)
  have hown : s.vm.findClass R_B = some m.cls := hown
  have hP : va_P D cls (bsW ad cL cI nv nb nt nf na lv nm vw vp tw ab am w) s.heap := hP
  have hl : lv_has ls 1 [(0, .ref (ad 0))] := hl
  have hAn : ∀ q, A q → n0 ≤ q := fun q h => by rw [hAe] at h; exact Ze_AB hX u h
  obtain ⟨o_nv, o_nb, o_nt, o_nf, o_na, o_lv, o_nm, o_vw, o_tw, o_am, o_ab⟩ := id hok
  refine lv_aload_n hx hb d_B_push_0 rfl (lv_at hl 0 rfl) ?_
  refine va_get (D := D) (ci := 0) (v := .int (nI lv)) (C := R_B) (T := F_B) (N := 14) hx hb hts in_B hown hK hP 0 rfl rfl 11 (by decide) (hts _ wd_58) (fun _ h9 => h9) rfl d_B_push_1 ?_
  refine lv_iconst (v := nI 5) hx hb d_B_push_4 (by decide) ?_
  refine z_icmp_lt (tgt := 16) hx hb (nI_toInt (by omega)) (nI_toInt (by omega)) d_B_push_5 (by decide) (fun c_5 => ?_) (fun c_5 => ?_)
  · exact absurd c_5 (by omega)
  · exact ft_throw (n0 := n0) (own := R_B) (E := X_ISE) (names := X_up) hx hb hst hlocks hnone (hl.1.trans hml.symm) hown (by decide +kernel) fit_up (hts _ wd_211) (hts _ wd_9) (at_of at1_ISE at2_ISE hts hX.2.2.2) at3_ISE hX hAn hAe hK hP hD hS (Nat.le_of_ble_eq_true rfl) (Nat.le_of_ble_eq_true rfl) (Nat.le_of_ble_eq_true rfl) (Nat.le_of_ble_eq_true rfl) d_B_push_8 d_B_push_11 d_B_push_12 d_B_push_15
set_option maxHeartbeats 4000000 in
set_option maxRecDepth 100000 in
theorem e_B_pop_1 (l : Launch) (D : va_G) (hst : l.stackTraces = false) (n0 : Nat) (ad : Nat → Nat) (cL cI : ClassId) (nv nb nt nf na lv nm : Nat) (vw vp tw ab am : Nat → Nat) (w : Nat → Int64) (hok : Bok nv nb nt nf na lv nm vw vp tw ab am) (u : ∀ i, i < 9 → n0 ≤ ad i) (hn : lv = 0) : Ft l y_B_pop (wk y_B_pop b_B_pop 2 (some .int)) rt_B_pop D cls [(cL, .long), (cI, .int)] [.ref (ad 0)] (bsW ad cL cI nv nb nt nf na lv nm vw vp tw ab am w) (Ze n0) X_ISE (bsW ad cL cI nv nb nt nf na lv nm vw vp tw ab am w) := by
  refine Ft.of (by decide) rfl (Nat.le_of_ble_eq_true rfl) ?_
  intro p e s m below meth c A ls hx hb hml hr hts0 hown hlocks hnone hP hK hD hS hA hAe hX hl
  have hts : ∀ w ∈ lw_ok, w.before _ s = true := fun w h => hts0 w (List.mem_cons_of_mem _ h)
  have hown : s.vm.findClass R_B = some m.cls := hown
  have hP : va_P D cls (bsW ad cL cI nv nb nt nf na lv nm vw vp tw ab am w) s.heap := hP
  have hl : lv_has ls 2 [(0, .ref (ad 0))] := hl
  have hAn : ∀ q, A q → n0 ≤ q := fun q h => by rw [hAe] at h; exact Ze_AB hX u h
  obtain ⟨o_nv, o_nb, o_nt, o_nf, o_na, o_lv, o_nm, o_vw, o_tw, o_am, o_ab⟩ := id hok
  refine lv_aload_n hx hb d_B_pop_0 rfl (lv_at hl 0 rfl) ?_
  refine va_get (D := D) (ci := 0) (v := .int (nI lv)) (C := R_B) (T := F_B) (N := 14) hx hb hts in_B hown hK hP 0 rfl rfl 11 (by decide) (hts _ wd_58) (fun _ h9 => h9) rfl d_B_pop_1 ?_
  refine z_if_ne (tgt := 15) hx hb (nI_toInt (by omega)) d_B_pop_4 (by decide) (fun c_4 => ?_) (fun c_4 => ?_)
  · exact absurd c_4 (by omega)
  · exact ft_throw (n0 := n0) (own := R_B) (E := X_ISE) (names := X_up) hx hb hst hlocks hnone (hl.1.trans hml.symm) hown (by decide +kernel) fit_up (hts _ wd_211) (hts _ wd_9) (at_of at1_ISE at2_ISE hts hX.2.2.2) at3_ISE hX hAn hAe hK hP hD hS (Nat.le_of_ble_eq_true rfl) (Nat.le_of_ble_eq_true rfl) (Nat.le_of_ble_eq_true rfl) (Nat.le_of_ble_eq_true rfl) d_B_pop_7 d_B_pop_10 d_B_pop_11 d_B_pop_14
set_option maxHeartbeats 4000000 in
set_option maxRecDepth 100000 in
theorem e_B_value_1 (l : Launch) (D : va_G) (hst : l.stackTraces = false) (n0 : Nat) (ad : Nat → Nat) (cL cI : ClassId) (nv nb nt nf na lv nm : Nat) (vw vp tw ab am : Nat → Nat) (w : Nat → Int64) (hok : Bok nv nb nt nf na lv nm vw vp tw ab am) (u : ∀ i, i < 9 → n0 ≤ ad i) (x : Int32) (hf : hasB x nv = false) : Ft l y_B_value (wk y_B_value b_B_value 3 (some .int)) rt_B_value D cls [(cL, .long), (cI, .int)] [.ref (ad 0), .int x] (bsW ad cL cI nv nb nt nf na lv nm vw vp tw ab am w) (Ze n0) X_NSE (bsW ad cL cI nv nb nt nf na lv nm vw vp tw ab am w) := by
  refine Ft.of (by decide) rfl (Nat.le_of_ble_eq_true rfl) ?_
  intro p e s m below meth c A ls hx hb hml hr hts0 hown hlocks hnone hP hK hD hS hA hAe hX hl
  have hts : ∀ w ∈ lw_ok, w.before _ s = true := fun w h => hts0 w (List.mem_cons_of_mem _ h)
  have hown : s.vm.findClass R_B = some m.cls := hown
  have hP : va_P D cls (bsW ad cL cI nv nb nt nf na lv nm vw vp tw ab am w) s.heap := hP
  have hl : lv_has ls 3 [(0, .ref (ad 0)), (1, .int x)] := hl
  have hAn : ∀ q, A q → n0 ≤ q := fun q h => by rw [hAe] at h; exact Ze_AB hX u h
  obtain ⟨o_nv, o_nb, o_nt, o_nf, o_na, o_lv, o_nm, o_vw, o_tw, o_am, o_ab⟩ := id hok
  refine lv_aload_n hx hb d_B_value_0 rfl (lv_at hl 0 rfl) ?_
  refine lv_iload_n hx hb d_B_value_1 rfl (lv_at hl 1 rfl) ?_
  refine fn_V (ws' := (bsW ad cL cI nv nb nt nf na lv nm vw vp tw ab am w)) (w1 := (bsW ad cL cI nv nb nt nf na lv nm vw vp tw ab am w)) (wc := (bsW ad cL cI nv nb nt nf na lv nm vw vp tw ab am w)) (wr := []) ⟨hx, hb, hml, hown, hts⟩ (c_B_hasVariable l D ad cL cI nv nb nt nf na lv nm vw vp tw ab am w hok x) ⟨callB_of 1 hts (gW wd_240) rfl rfl rfl (hts _ wd_1) (hts _ wd_237) hd_B_hasVariable ⟨Nat.le_of_ble_eq_true rfl, Nat.le_of_ble_eq_true rfl⟩, hts _ wd_239, hts _ wd_p7⟩ XT_ok (fun _ _ _ => trivial) hK hP hD hS hA 0 0 rfl rfl rfl [0, 1] [0, 1, 2, 3, 4, 5, 6, 7, 8] [] [0, 1, 2, 3, 4, 5, 6, 7, 8] rfl rfl rfl rfl rfl (by decide) rfl rfl rfl hl.1 rfl (Nat.le_of_ble_eq_true rfl) d_B_value_2 ⟨Nat.zero_le _, Nat.zero_le _⟩ (st1 := [.int (bI (hasB x nv))]) rfl (fun H locs hP hD hS => ?_)
  refine b_if_ne (tgt := 16) hx hb d_B_value_5 (by decide) (fun c_5 => ?_) (fun c_5 => ?_)
  · exact absurd c_5 (by rw [hf]; decide)
  · exact ft_throw (n0 := n0) (own := R_B) (E := X_NSE) (names := X_up) hx hb hst hlocks hnone (hl.1.trans hml.symm) hown (by decide +kernel) fit_up (hts _ wd_387) (hts _ wd_10) (at_of at1_NSE at2_NSE hts hX.2.2.2) at3_NSE hX hAn hAe hK hP hD hS (Nat.le_of_ble_eq_true rfl) (Nat.le_of_ble_eq_true rfl) (Nat.le_of_ble_eq_true rfl) (Nat.le_of_ble_eq_true rfl) d_B_value_8 d_B_value_11 d_B_value_12 d_B_value_15
set_option maxHeartbeats 4000000 in
set_option maxRecDepth 100000 in
theorem e_B_value_2 (l : Launch) (D : va_G) (hst : l.stackTraces = false) (n0 : Nat) (ad : Nat → Nat) (cL cI : ClassId) (nv nb nt nf na lv nm : Nat) (vw vp tw ab am : Nat → Nat) (w : Nat → Int64) (hok : Bok nv nb nt nf na lv nm vw vp tw ab am) (u : ∀ i, i < 9 → n0 ≤ ad i) (x : Int32) (hf : hasB x nv = true) (hm : (!pNone w (250 + lv) (250 + lv)) = false) : Ft l y_B_value (wk y_B_value b_B_value 3 (some .int)) rt_B_value D cls [(cL, .long), (cI, .int)] [.ref (ad 0), .int x] (bsW ad cL cI nv nb nt nf na lv nm vw vp tw ab am w) (Ze n0) X_UOE (bsW ad cL cI nv nb nt nf na lv nm vw vp tw ab am w) := by
  refine Ft.of (by decide) rfl (Nat.le_of_ble_eq_true rfl) ?_
  intro p e s m below meth c A ls hx hb hml hr hts0 hown hlocks hnone hP hK hD hS hA hAe hX hl
  have hts : ∀ w ∈ lw_ok, w.before _ s = true := fun w h => hts0 w (List.mem_cons_of_mem _ h)
  have hown : s.vm.findClass R_B = some m.cls := hown
  have hP : va_P D cls (bsW ad cL cI nv nb nt nf na lv nm vw vp tw ab am w) s.heap := hP
  have hl : lv_has ls 3 [(0, .ref (ad 0)), (1, .int x)] := hl
  have hAn : ∀ q, A q → n0 ≤ q := fun q h => by rw [hAe] at h; exact Ze_AB hX u h
  obtain ⟨o_nv, o_nb, o_nt, o_nf, o_na, o_lv, o_nm, o_vw, o_tw, o_am, o_ab⟩ := id hok
  refine lv_aload_n hx hb d_B_value_0 rfl (lv_at hl 0 rfl) ?_
  refine lv_iload_n hx hb d_B_value_1 rfl (lv_at hl 1 rfl) ?_
  refine fn_V (ws' := (bsW ad cL cI nv nb nt nf na lv nm vw vp tw ab am w)) (w1 := (bsW ad cL cI nv nb nt nf na lv nm vw vp tw ab am w)) (wc := (bsW ad cL cI nv nb nt nf na lv nm vw vp tw ab am w)) (wr := []) ⟨hx, hb, hml, hown, hts⟩ (c_B_hasVariable l D ad cL cI nv nb nt nf na lv nm vw vp tw ab am w hok x) ⟨callB_of 1 hts (gW wd_240) rfl rfl rfl (hts _ wd_1) (hts _ wd_237) hd_B_hasVariable ⟨Nat.le_of_ble_eq_true rfl, Nat.le_of_ble_eq_true rfl⟩, hts _ wd_239, hts _ wd_p7⟩ XT_ok (fun _ _ _ => trivial) hK hP hD hS hA 0 0 rfl rfl rfl [0, 1] [0, 1, 2, 3, 4, 5, 6, 7, 8] [] [0, 1, 2, 3, 4, 5, 6, 7, 8] rfl rfl rfl rfl rfl (by decide) rfl rfl rfl hl.1 rfl (Nat.le_of_ble_eq_true rfl) d_B_value_2 ⟨Nat.zero_le _, Nat.zero_le _⟩ (st1 := [.int (bI (hasB x nv))]) rfl (fun H locs hP hD hS => ?_)
  refine b_if_ne (tgt := 16) hx hb d_B_value_5 (by decide) (fun c_5 => ?_) (fun c_5 => ?_)
  · refine lv_aload_n hx hb d_B_value_16 rfl (lv_at hl 0 rfl) ?_
    refine fn_V (ws' := (bsW ad cL cI nv nb nt nf na lv nm vw vp tw ab am w)) (w1 := (bsW ad cL cI nv nb nt nf na lv nm vw vp tw ab am w)) (wc := (bsW ad cL cI nv nb nt nf na lv nm vw vp tw ab am w)) (wr := []) ⟨hx, hb, hml, hown, hts⟩ (c_B_hasModel l D ad cL cI nv nb nt nf na lv nm vw vp tw ab am w hok ) ⟨callB_of 0 hts (gW wd_98) rfl rfl rfl (hts _ wd_1) (hts _ wd_95) hd_B_hasModel ⟨Nat.le_of_ble_eq_true rfl, Nat.le_of_ble_eq_true rfl⟩, hts _ wd_97, hts _ wd_p0⟩ XT_ok (fun _ _ _ => trivial) hK hP hD hS hA 0 0 rfl rfl rfl [0, 1] [0, 1, 2, 3, 4, 5, 6, 7, 8] [] [0, 1, 2, 3, 4, 5, 6, 7, 8] rfl rfl rfl rfl rfl (by decide) rfl rfl rfl hl.1 rfl (Nat.le_of_ble_eq_true rfl) d_B_value_17 ⟨Nat.zero_le _, Nat.zero_le _⟩ (st1 := [.int (bI (!pNone w (250 + lv) (250 + lv)))]) rfl (fun H locs hP hD hS => ?_)
    refine b_if_ne (tgt := 31) hx hb d_B_value_20 (by decide) (fun c_20 => ?_) (fun c_20 => ?_)
    · exact absurd c_20 (by rw [hm]; decide)
    · exact ft_throw (n0 := n0) (own := R_B) (E := X_UOE) (names := X_up) hx hb hst hlocks hnone (hl.1.trans hml.symm) hown (by decide +kernel) fit_up (hts _ wd_424) (hts _ wd_11) (at_of at1_UOE at2_UOE hts hX.2.2.2) at3_UOE hX hAn hAe hK hP hD hS (Nat.le_of_ble_eq_true rfl) (Nat.le_of_ble_eq_true rfl) (Nat.le_of_ble_eq_true rfl) (Nat.le_of_ble_eq_true rfl) d_B_value_23 d_B_value_26 d_B_value_27 d_B_value_30
  · exact absurd hf (by rw [c_5]; decide)
set_option maxHeartbeats 4000000 in
set_option maxRecDepth 100000 in
theorem e_B_valueOf_1 (l : Launch) (D : va_G) (hst : l.stackTraces = false) (n0 : Nat) (ad : Nat → Nat) (cL cI : ClassId) (nv nb nt nf na lv nm : Nat) (vw vp tw ab am : Nat → Nat) (w : Nat → Int64) (hok : Bok nv nb nt nf na lv nm vw vp tw ab am) (u : ∀ i, i < 9 → n0 ≤ ad i) (x : Int32) (hf : hasB x nt = false) : Ft l y_B_valueOf (wk y_B_valueOf b_B_valueOf 5 (some .int)) rt_B_valueOf D cls [(cL, .long), (cI, .int)] [.ref (ad 0), .int x] (bsW ad cL cI nv nb nt nf na lv nm vw vp tw ab am w) (Ze n0) X_NSE (bsW ad cL cI nv nb nt nf na lv nm vw vp tw ab am w) := by
  refine Ft.of (by decide) rfl (Nat.le_of_ble_eq_true rfl) ?_
  intro p e s m below meth c A ls hx hb hml hr hts0 hown hlocks hnone hP hK hD hS hA hAe hX hl
  have hts : ∀ w ∈ lw_ok, w.before _ s = true := fun w h => hts0 w (List.mem_cons_of_mem _ h)
  have hown : s.vm.findClass R_B = some m.cls := hown
  have hP : va_P D cls (bsW ad cL cI nv nb nt nf na lv nm vw vp tw ab am w) s.heap := hP
  have hl : lv_has ls 5 [(0, .ref (ad 0)), (1, .int x)] := hl
  have hAn : ∀ q, A q → n0 ≤ q := fun q h => by rw [hAe] at h; exact Ze_AB hX u h
  obtain ⟨o_nv, o_nb, o_nt, o_nf, o_na, o_lv, o_nm, o_vw, o_tw, o_am, o_ab⟩ := id hok
  refine lv_aload_n hx hb d_B_valueOf_0 rfl (lv_at hl 0 rfl) ?_
  refine lv_iload_n hx hb d_B_valueOf_1 rfl (lv_at hl 1 rfl) ?_
  refine fn_V (ws' := (bsW ad cL cI nv nb nt nf na lv nm vw vp tw ab am w)) (w1 := (bsW ad cL cI nv nb nt nf na lv nm vw vp tw ab am w)) (wc := (bsW ad cL cI nv nb nt nf na lv nm vw vp tw ab am w)) (wr := []) ⟨hx, hb, hml, hown, hts⟩ (c_B_hasTerm l D ad cL cI nv nb nt nf na lv nm vw vp tw ab am w hok x) ⟨callB_of 1 hts (gW wd_252) rfl rfl rfl (hts _ wd_1) (hts _ wd_249) hd_B_hasTerm ⟨Nat.le_of_ble_eq_true rfl, Nat.le_of_ble_eq_true rfl⟩, hts _ wd_251, hts _ wd_p10⟩ XT_ok (fun _ _ _ => trivial) hK hP hD hS hA 0 0 rfl rfl rfl [0, 1] [0, 1, 2, 3, 4, 5, 6, 7, 8] [] [0, 1, 2, 3, 4, 5, 6, 7, 8] rfl rfl rfl rfl rfl (by decide) rfl rfl rfl hl.1 rfl (Nat.le_of_ble_eq_true rfl) d_B_valueOf_2 ⟨Nat.zero_le _, Nat.zero_le _⟩ (st1 := [.int (bI (hasB x nt))]) rfl (fun H locs hP hD hS => ?_)
  refine b_if_ne (tgt := 16) hx hb d_B_valueOf_5 (by decide) (fun c_5 => ?_) (fun c_5 => ?_)
  · exact absurd c_5 (by rw [hf]; decide)
  · exact ft_throw (n0 := n0) (own := R_B) (E := X_NSE) (names := X_up) hx hb hst hlocks hnone (hl.1.trans hml.symm) hown (by decide +kernel) fit_up (hts _ wd_387) (hts _ wd_10) (at_of at1_NSE at2_NSE hts hX.2.2.2) at3_NSE hX hAn hAe hK hP hD hS (Nat.le_of_ble_eq_true rfl) (Nat.le_of_ble_eq_true rfl) (Nat.le_of_ble_eq_true rfl) (Nat.le_of_ble_eq_true rfl) d_B_valueOf_8 d_B_valueOf_11 d_B_valueOf_12 d_B_valueOf_15
set_option maxHeartbeats 4000000 in
set_option maxRecDepth 100000 in
theorem e_B_valueOf_2 (l : Launch) (D : va_G) (hst : l.stackTraces = false) (n0 : Nat) (ad : Nat → Nat) (cL cI : ClassId) (nv nb nt nf na lv nm : Nat) (vw vp tw ab am : Nat → Nat) (w : Nat → Int64) (hok : Bok nv nb nt nf na lv nm vw vp tw ab am) (u : ∀ i, i < 9 → n0 ≤ ad i) (x : Int32) (hf : hasB x nt = true) (hm : (!pNone w (250 + lv) (250 + lv)) = false) : Ft l y_B_valueOf (wk y_B_valueOf b_B_valueOf 5 (some .int)) rt_B_valueOf D cls [(cL, .long), (cI, .int)] [.ref (ad 0), .int x] (bsW ad cL cI nv nb nt nf na lv nm vw vp tw ab am w) (Ze n0) X_UOE (bsW ad cL cI nv nb nt nf na lv nm vw vp tw ab am w) := by
  refine Ft.of (by decide) rfl (Nat.le_of_ble_eq_true rfl) ?_
  intro p e s m below meth c A ls hx hb hml hr hts0 hown hlocks hnone hP hK hD hS hA hAe hX hl
  have hts : ∀ w ∈ lw_ok, w.before _ s = true := fun w h => hts0 w (List.mem_cons_of_mem _ h)
  have hown : s.vm.findClass R_B = some m.cls := hown
  have hP : va_P D cls (bsW ad cL cI nv nb nt nf na lv nm vw vp tw ab am w) s.heap := hP
  have hl : lv_has ls 5 [(0, .ref (ad 0)), (1, .int x)] := hl
  have hAn : ∀ q, A q → n0 ≤ q := fun q h => by rw [hAe] at h; exact Ze_AB hX u h
  obtain ⟨o_nv, o_nb, o_nt, o_nf, o_na, o_lv, o_nm, o_vw, o_tw, o_am, o_ab⟩ := id hok
  refine lv_aload_n hx hb d_B_valueOf_0 rfl (lv_at hl 0 rfl) ?_
  refine lv_iload_n hx hb d_B_valueOf_1 rfl (lv_at hl 1 rfl) ?_
  refine fn_V (ws' := (bsW ad cL cI nv nb nt nf na lv nm vw vp tw ab am w)) (w1 := (bsW ad cL cI nv nb nt nf na lv nm vw vp tw ab am w)) (wc := (bsW ad cL cI nv nb nt nf na lv nm vw vp tw ab am w)) (wr := []) ⟨hx, hb, hml, hown, hts⟩ (c_B_hasTerm l D ad cL cI nv nb nt nf na lv nm vw vp tw ab am w hok x) ⟨callB_of 1 hts (gW wd_252) rfl rfl rfl (hts _ wd_1) (hts _ wd_249) hd_B_hasTerm ⟨Nat.le_of_ble_eq_true rfl, Nat.le_of_ble_eq_true rfl⟩, hts _ wd_251, hts _ wd_p10⟩ XT_ok (fun _ _ _ => trivial) hK hP hD hS hA 0 0 rfl rfl rfl [0, 1] [0, 1, 2, 3, 4, 5, 6, 7, 8] [] [0, 1, 2, 3, 4, 5, 6, 7, 8] rfl rfl rfl rfl rfl (by decide) rfl rfl rfl hl.1 rfl (Nat.le_of_ble_eq_true rfl) d_B_valueOf_2 ⟨Nat.zero_le _, Nat.zero_le _⟩ (st1 := [.int (bI (hasB x nt))]) rfl (fun H locs hP hD hS => ?_)
  refine b_if_ne (tgt := 16) hx hb d_B_valueOf_5 (by decide) (fun c_5 => ?_) (fun c_5 => ?_)
  · refine lv_aload_n hx hb d_B_valueOf_16 rfl (lv_at hl 0 rfl) ?_
    refine fn_V (ws' := (bsW ad cL cI nv nb nt nf na lv nm vw vp tw ab am w)) (w1 := (bsW ad cL cI nv nb nt nf na lv nm vw vp tw ab am w)) (wc := (bsW ad cL cI nv nb nt nf na lv nm vw vp tw ab am w)) (wr := []) ⟨hx, hb, hml, hown, hts⟩ (c_B_hasModel l D ad cL cI nv nb nt nf na lv nm vw vp tw ab am w hok ) ⟨callB_of 0 hts (gW wd_98) rfl rfl rfl (hts _ wd_1) (hts _ wd_95) hd_B_hasModel ⟨Nat.le_of_ble_eq_true rfl, Nat.le_of_ble_eq_true rfl⟩, hts _ wd_97, hts _ wd_p0⟩ XT_ok (fun _ _ _ => trivial) hK hP hD hS hA 0 0 rfl rfl rfl [0, 1] [0, 1, 2, 3, 4, 5, 6, 7, 8] [] [0, 1, 2, 3, 4, 5, 6, 7, 8] rfl rfl rfl rfl rfl (by decide) rfl rfl rfl hl.1 rfl (Nat.le_of_ble_eq_true rfl) d_B_valueOf_17 ⟨Nat.zero_le _, Nat.zero_le _⟩ (st1 := [.int (bI (!pNone w (250 + lv) (250 + lv)))]) rfl (fun H locs hP hD hS => ?_)
    refine b_if_ne (tgt := 31) hx hb d_B_valueOf_20 (by decide) (fun c_20 => ?_) (fun c_20 => ?_)
    · exact absurd c_20 (by rw [hm]; decide)
    · exact ft_throw (n0 := n0) (own := R_B) (E := X_UOE) (names := X_up) hx hb hst hlocks hnone (hl.1.trans hml.symm) hown (by decide +kernel) fit_up (hts _ wd_424) (hts _ wd_11) (at_of at1_UOE at2_UOE hts hX.2.2.2) at3_UOE hX hAn hAe hK hP hD hS (Nat.le_of_ble_eq_true rfl) (Nat.le_of_ble_eq_true rfl) (Nat.le_of_ble_eq_true rfl) (Nat.le_of_ble_eq_true rfl) d_B_valueOf_23 d_B_valueOf_26 d_B_valueOf_27 d_B_valueOf_30
  · exact absurd hf (by rw [c_5]; decide)
set_option maxHeartbeats 4000000 in
set_option maxRecDepth 100000 in
theorem e_B_entailed_1 (l : Launch) (D : va_G) (hst : l.stackTraces = false) (n0 : Nat) (ad : Nat → Nat) (cL cI : ClassId) (nv nb nt nf na lv nm : Nat) (vw vp tw ab am : Nat → Nat) (w : Nat → Int64) (hok : Bok nv nb nt nf na lv nm vw vp tw ab am) (u : ∀ i, i < 9 → n0 ≤ ad i) (x : Int32) (hf : hasB x nf = false) : Ft l y_B_entailed (wk y_B_entailed b_B_entailed 2 (some .int)) rt_B_entailed D cls [(cL, .long), (cI, .int)] [.ref (ad 0), .int x] (bsW ad cL cI nv nb nt nf na lv nm vw vp tw ab am w) (Ze n0) X_NSE (bsW ad cL cI nv nb nt nf na lv nm vw vp tw ab am w) := by
  refine Ft.of (by decide) rfl (Nat.le_of_ble_eq_true rfl) ?_
  intro p e s m below meth c A ls hx hb hml hr hts0 hown hlocks hnone hP hK hD hS hA hAe hX hl
  have hts : ∀ w ∈ lw_ok, w.before _ s = true := fun w h => hts0 w (List.mem_cons_of_mem _ h)
  have hown : s.vm.findClass R_B = some m.cls := hown
  have hP : va_P D cls (bsW ad cL cI nv nb nt nf na lv nm vw vp tw ab am w) s.heap := hP
  have hl : lv_has ls 2 [(0, .ref (ad 0)), (1, .int x)] := hl
  have hAn : ∀ q, A q → n0 ≤ q := fun q h => by rw [hAe] at h; exact Ze_AB hX u h
  obtain ⟨o_nv, o_nb, o_nt, o_nf, o_na, o_lv, o_nm, o_vw, o_tw, o_am, o_ab⟩ := id hok
  refine lv_aload_n hx hb d_B_entailed_0 rfl (lv_at hl 0 rfl) ?_
  refine lv_iload_n hx hb d_B_entailed_1 rfl (lv_at hl 1 rfl) ?_
  refine fn_V (ws' := (bsW ad cL cI nv nb nt nf na lv nm vw vp tw ab am w)) (w1 := (bsW ad cL cI nv nb nt nf na lv nm vw vp tw ab am w)) (wc := (bsW ad cL cI nv nb nt nf na lv nm vw vp tw ab am w)) (wr := []) ⟨hx, hb, hml, hown, hts⟩ (c_B_hasFormula l D ad cL cI nv nb nt nf na lv nm vw vp tw ab am w hok x) ⟨callB_of 1 hts (gW wd_256) rfl rfl rfl (hts _ wd_1) (hts _ wd_253) hd_B_hasFormula ⟨Nat.le_of_ble_eq_true rfl, Nat.le_of_ble_eq_true rfl⟩, hts _ wd_255, hts _ wd_p11⟩ XT_ok (fun _ _ _ => trivial) hK hP hD hS hA 0 0 rfl rfl rfl [0, 1] [0, 1, 2, 3, 4, 5, 6, 7, 8] [] [0, 1, 2, 3, 4, 5, 6, 7, 8] rfl rfl rfl rfl rfl (by decide) rfl rfl rfl hl.1 rfl (Nat.le_of_ble_eq_true rfl) d_B_entailed_2 ⟨Nat.zero_le _, Nat.zero_le _⟩ (st1 := [.int (bI (hasB x nf))]) rfl (fun H locs hP hD hS => ?_)
  refine b_if_ne (tgt := 16) hx hb d_B_entailed_5 (by decide) (fun c_5 => ?_) (fun c_5 => ?_)
  · exact absurd c_5 (by rw [hf]; decide)
  · exact ft_throw (n0 := n0) (own := R_B) (E := X_NSE) (names := X_up) hx hb hst hlocks hnone (hl.1.trans hml.symm) hown (by decide +kernel) fit_up (hts _ wd_387) (hts _ wd_10) (at_of at1_NSE at2_NSE hts hX.2.2.2) at3_NSE hX hAn hAe hK hP hD hS (Nat.le_of_ble_eq_true rfl) (Nat.le_of_ble_eq_true rfl) (Nat.le_of_ble_eq_true rfl) (Nat.le_of_ble_eq_true rfl) d_B_entailed_8 d_B_entailed_11 d_B_entailed_12 d_B_entailed_15
set_option maxHeartbeats 4000000 in
set_option maxRecDepth 100000 in
theorem e_B_entailed_2 (l : Launch) (D : va_G) (hst : l.stackTraces = false) (n0 : Nat) (ad : Nat → Nat) (cL cI : ClassId) (nv nb nt nf na lv nm : Nat) (vw vp tw ab am : Nat → Nat) (w : Nat → Int64) (hok : Bok nv nb nt nf na lv nm vw vp tw ab am) (u : ∀ i, i < 9 → n0 ≤ ad i) (x : Int32) (hf : hasB x nf = true) (hm : (!pNone w (250 + lv) (250 + lv)) = false) : Ft l y_B_entailed (wk y_B_entailed b_B_entailed 2 (some .int)) rt_B_entailed D cls [(cL, .long), (cI, .int)] [.ref (ad 0), .int x] (bsW ad cL cI nv nb nt nf na lv nm vw vp tw ab am w) (Ze n0) X_UOE (bsW ad cL cI nv nb nt nf na lv nm vw vp tw ab am w) := by
  refine Ft.of (by decide) rfl (Nat.le_of_ble_eq_true rfl) ?_
  intro p e s m below meth c A ls hx hb hml hr hts0 hown hlocks hnone hP hK hD hS hA hAe hX hl
  have hts : ∀ w ∈ lw_ok, w.before _ s = true := fun w h => hts0 w (List.mem_cons_of_mem _ h)
  have hown : s.vm.findClass R_B = some m.cls := hown
  have hP : va_P D cls (bsW ad cL cI nv nb nt nf na lv nm vw vp tw ab am w) s.heap := hP
  have hl : lv_has ls 2 [(0, .ref (ad 0)), (1, .int x)] := hl
  have hAn : ∀ q, A q → n0 ≤ q := fun q h => by rw [hAe] at h; exact Ze_AB hX u h
  obtain ⟨o_nv, o_nb, o_nt, o_nf, o_na, o_lv, o_nm, o_vw, o_tw, o_am, o_ab⟩ := id hok
  refine lv_aload_n hx hb d_B_entailed_0 rfl (lv_at hl 0 rfl) ?_
  refine lv_iload_n hx hb d_B_entailed_1 rfl (lv_at hl 1 rfl) ?_
  refine fn_V (ws' := (bsW ad cL cI nv nb nt nf na lv nm vw vp tw ab am w)) (w1 := (bsW ad cL cI nv nb nt nf na lv nm vw vp tw ab am w)) (wc := (bsW ad cL cI nv nb nt nf na lv nm vw vp tw ab am w)) (wr := []) ⟨hx, hb, hml, hown, hts⟩ (c_B_hasFormula l D ad cL cI nv nb nt nf na lv nm vw vp tw ab am w hok x) ⟨callB_of 1 hts (gW wd_256) rfl rfl rfl (hts _ wd_1) (hts _ wd_253) hd_B_hasFormula ⟨Nat.le_of_ble_eq_true rfl, Nat.le_of_ble_eq_true rfl⟩, hts _ wd_255, hts _ wd_p11⟩ XT_ok (fun _ _ _ => trivial) hK hP hD hS hA 0 0 rfl rfl rfl [0, 1] [0, 1, 2, 3, 4, 5, 6, 7, 8] [] [0, 1, 2, 3, 4, 5, 6, 7, 8] rfl rfl rfl rfl rfl (by decide) rfl rfl rfl hl.1 rfl (Nat.le_of_ble_eq_true rfl) d_B_entailed_2 ⟨Nat.zero_le _, Nat.zero_le _⟩ (st1 := [.int (bI (hasB x nf))]) rfl (fun H locs hP hD hS => ?_)
  refine b_if_ne (tgt := 16) hx hb d_B_entailed_5 (by decide) (fun c_5 => ?_) (fun c_5 => ?_)
  · refine lv_aload_n hx hb d_B_entailed_16 rfl (lv_at hl 0 rfl) ?_
    refine fn_V (ws' := (bsW ad cL cI nv nb nt nf na lv nm vw vp tw ab am w)) (w1 := (bsW ad cL cI nv nb nt nf na lv nm vw vp tw ab am w)) (wc := (bsW ad cL cI nv nb nt nf na lv nm vw vp tw ab am w)) (wr := []) ⟨hx, hb, hml, hown, hts⟩ (c_B_hasModel l D ad cL cI nv nb nt nf na lv nm vw vp tw ab am w hok ) ⟨callB_of 0 hts (gW wd_98) rfl rfl rfl (hts _ wd_1) (hts _ wd_95) hd_B_hasModel ⟨Nat.le_of_ble_eq_true rfl, Nat.le_of_ble_eq_true rfl⟩, hts _ wd_97, hts _ wd_p0⟩ XT_ok (fun _ _ _ => trivial) hK hP hD hS hA 0 0 rfl rfl rfl [0, 1] [0, 1, 2, 3, 4, 5, 6, 7, 8] [] [0, 1, 2, 3, 4, 5, 6, 7, 8] rfl rfl rfl rfl rfl (by decide) rfl rfl rfl hl.1 rfl (Nat.le_of_ble_eq_true rfl) d_B_entailed_17 ⟨Nat.zero_le _, Nat.zero_le _⟩ (st1 := [.int (bI (!pNone w (250 + lv) (250 + lv)))]) rfl (fun H locs hP hD hS => ?_)
    refine b_if_ne (tgt := 31) hx hb d_B_entailed_20 (by decide) (fun c_20 => ?_) (fun c_20 => ?_)
    · exact absurd c_20 (by rw [hm]; decide)
    · exact ft_throw (n0 := n0) (own := R_B) (E := X_UOE) (names := X_up) hx hb hst hlocks hnone (hl.1.trans hml.symm) hown (by decide +kernel) fit_up (hts _ wd_424) (hts _ wd_11) (at_of at1_UOE at2_UOE hts hX.2.2.2) at3_UOE hX hAn hAe hK hP hD hS (Nat.le_of_ble_eq_true rfl) (Nat.le_of_ble_eq_true rfl) (Nat.le_of_ble_eq_true rfl) (Nat.le_of_ble_eq_true rfl) d_B_entailed_23 d_B_entailed_26 d_B_entailed_27 d_B_entailed_30
  · exact absurd hf (by rw [c_5]; decide)
set_option maxHeartbeats 4000000 in
set_option maxRecDepth 100000 in
theorem e_B_fixed_1 (l : Launch) (D : va_G) (hst : l.stackTraces = false) (n0 : Nat) (ad : Nat → Nat) (cL cI : ClassId) (nv nb nt nf na lv nm : Nat) (vw vp tw ab am : Nat → Nat) (w : Nat → Int64) (hok : Bok nv nb nt nf na lv nm vw vp tw ab am) (u : ∀ i, i < 9 → n0 ≤ ad i) (x : Int32) (hf : hasB x nv = false) : Ft l y_B_fixed (wk y_B_fixed b_B_fixed 4 (some .int)) rt_B_fixed D cls [(cL, .long), (cI, .int)] [.ref (ad 0), .int x] (bsW ad cL cI nv nb nt nf na lv nm vw vp tw ab am w) (Ze n0) X_NSE (bsW ad cL cI nv nb nt nf na lv nm vw vp tw ab am w) := by
  refine Ft.of (by decide) rfl (Nat.le_of_ble_eq_true rfl) ?_
  intro p e s m below meth c A ls hx hb hml hr hts0 hown hlocks hnone hP hK hD hS hA hAe hX hl
  have hts : ∀ w ∈ lw_ok, w.before _ s = true := fun w h => hts0 w (List.mem_cons_of_mem _ h)
  have hown : s.vm.findClass R_B = some m.cls := hown
  have hP : va_P D cls (bsW ad cL cI nv nb nt nf na lv nm vw vp tw ab am w) s.heap := hP
  have hl : lv_has ls 4 [(0, .ref (ad 0)), (1, .int x)] := hl
  have hAn : ∀ q, A q → n0 ≤ q := fun q h => by rw [hAe] at h; exact Ze_AB hX u h
  obtain ⟨o_nv, o_nb, o_nt, o_nf, o_na, o_lv, o_nm, o_vw, o_tw, o_am, o_ab⟩ := id hok
  refine lv_aload_n hx hb d_B_fixed_0 rfl (lv_at hl 0 rfl) ?_
  refine lv_iload_n hx hb d_B_fixed_1 rfl (lv_at hl 1 rfl) ?_
  refine fn_V (ws' := (bsW ad cL cI nv nb nt nf na lv nm vw vp tw ab am w)) (w1 := (bsW ad cL cI nv nb nt nf na lv nm vw vp tw ab am w)) (wc := (bsW ad cL cI nv nb nt nf na lv nm vw vp tw ab am w)) (wr := []) ⟨hx, hb, hml, hown, hts⟩ (c_B_hasVariable l D ad cL cI nv nb nt nf na lv nm vw vp tw ab am w hok x) ⟨callB_of 1 hts (gW wd_240) rfl rfl rfl (hts _ wd_1) (hts _ wd_237) hd_B_hasVariable ⟨Nat.le_of_ble_eq_true rfl, Nat.le_of_ble_eq_true rfl⟩, hts _ wd_239, hts _ wd_p7⟩ XT_ok (fun _ _ _ => trivial) hK hP hD hS hA 0 0 rfl rfl rfl [0, 1] [0, 1, 2, 3, 4, 5, 6, 7, 8] [] [0, 1, 2, 3, 4, 5, 6, 7, 8] rfl rfl rfl rfl rfl (by decide) rfl rfl rfl hl.1 rfl (Nat.le_of_ble_eq_true rfl) d_B_fixed_2 ⟨Nat.zero_le _, Nat.zero_le _⟩ (st1 := [.int (bI (hasB x nv))]) rfl (fun H locs hP hD hS => ?_)
  refine b_if_ne (tgt := 16) hx hb d_B_fixed_5 (by decide) (fun c_5 => ?_) (fun c_5 => ?_)
  · exact absurd c_5 (by rw [hf]; decide)
  · exact ft_throw (n0 := n0) (own := R_B) (E := X_NSE) (names := X_up) hx hb hst hlocks hnone (hl.1.trans hml.symm) hown (by decide +kernel) fit_up (hts _ wd_387) (hts _ wd_10) (at_of at1_NSE at2_NSE hts hX.2.2.2) at3_NSE hX hAn hAe hK hP hD hS (Nat.le_of_ble_eq_true rfl) (Nat.le_of_ble_eq_true rfl) (Nat.le_of_ble_eq_true rfl) (Nat.le_of_ble_eq_true rfl) d_B_fixed_8 d_B_fixed_11 d_B_fixed_12 d_B_fixed_15
set_option maxHeartbeats 4000000 in
set_option maxRecDepth 100000 in
theorem e_B_fixed_2 (l : Launch) (D : va_G) (hst : l.stackTraces = false) (n0 : Nat) (ad : Nat → Nat) (cL cI : ClassId) (nv nb nt nf na lv nm : Nat) (vw vp tw ab am : Nat → Nat) (w : Nat → Int64) (hok : Bok nv nb nt nf na lv nm vw vp tw ab am) (u : ∀ i, i < 9 → n0 ≤ ad i) (x : Int32) (hf : hasB x nv = true) (hm : (!pNone w (250 + lv) (250 + lv)) = false) : Ft l y_B_fixed (wk y_B_fixed b_B_fixed 4 (some .int)) rt_B_fixed D cls [(cL, .long), (cI, .int)] [.ref (ad 0), .int x] (bsW ad cL cI nv nb nt nf na lv nm vw vp tw ab am w) (Ze n0) X_UOE (bsW ad cL cI nv nb nt nf na lv nm vw vp tw ab am w) := by
  refine Ft.of (by decide) rfl (Nat.le_of_ble_eq_true rfl) ?_
  intro p e s m below meth c A ls hx hb hml hr hts0 hown hlocks hnone hP hK hD hS hA hAe hX hl
  have hts : ∀ w ∈ lw_ok, w.before _ s = true := fun w h => hts0 w (List.mem_cons_of_mem _ h)
  have hown : s.vm.findClass R_B = some m.cls := hown
  have hP : va_P D cls (bsW ad cL cI nv nb nt nf na lv nm vw vp tw ab am w) s.heap := hP
  have hl : lv_has ls 4 [(0, .ref (ad 0)), (1, .int x)] := hl
  have hAn : ∀ q, A q → n0 ≤ q := fun q h => by rw [hAe] at h; exact Ze_AB hX u h
  obtain ⟨o_nv, o_nb, o_nt, o_nf, o_na, o_lv, o_nm, o_vw, o_tw, o_am, o_ab⟩ := id hok
  refine lv_aload_n hx hb d_B_fixed_0 rfl (lv_at hl 0 rfl) ?_
  refine lv_iload_n hx hb d_B_fixed_1 rfl (lv_at hl 1 rfl) ?_
  refine fn_V (ws' := (bsW ad cL cI nv nb nt nf na lv nm vw vp tw ab am w)) (w1 := (bsW ad cL cI nv nb nt nf na lv nm vw vp tw ab am w)) (wc := (bsW ad cL cI nv nb nt nf na lv nm vw vp tw ab am w)) (wr := []) ⟨hx, hb, hml, hown, hts⟩ (c_B_hasVariable l D ad cL cI nv nb nt nf na lv nm vw vp tw ab am w hok x) ⟨callB_of 1 hts (gW wd_240) rfl rfl rfl (hts _ wd_1) (hts _ wd_237) hd_B_hasVariable ⟨Nat.le_of_ble_eq_true rfl, Nat.le_of_ble_eq_true rfl⟩, hts _ wd_239, hts _ wd_p7⟩ XT_ok (fun _ _ _ => trivial) hK hP hD hS hA 0 0 rfl rfl rfl [0, 1] [0, 1, 2, 3, 4, 5, 6, 7, 8] [] [0, 1, 2, 3, 4, 5, 6, 7, 8] rfl rfl rfl rfl rfl (by decide) rfl rfl rfl hl.1 rfl (Nat.le_of_ble_eq_true rfl) d_B_fixed_2 ⟨Nat.zero_le _, Nat.zero_le _⟩ (st1 := [.int (bI (hasB x nv))]) rfl (fun H locs hP hD hS => ?_)
  refine b_if_ne (tgt := 16) hx hb d_B_fixed_5 (by decide) (fun c_5 => ?_) (fun c_5 => ?_)
  · refine lv_aload_n hx hb d_B_fixed_16 rfl (lv_at hl 0 rfl) ?_
    refine fn_V (ws' := (bsW ad cL cI nv nb nt nf na lv nm vw vp tw ab am w)) (w1 := (bsW ad cL cI nv nb nt nf na lv nm vw vp tw ab am w)) (wc := (bsW ad cL cI nv nb nt nf na lv nm vw vp tw ab am w)) (wr := []) ⟨hx, hb, hml, hown, hts⟩ (c_B_hasModel l D ad cL cI nv nb nt nf na lv nm vw vp tw ab am w hok ) ⟨callB_of 0 hts (gW wd_98) rfl rfl rfl (hts _ wd_1) (hts _ wd_95) hd_B_hasModel ⟨Nat.le_of_ble_eq_true rfl, Nat.le_of_ble_eq_true rfl⟩, hts _ wd_97, hts _ wd_p0⟩ XT_ok (fun _ _ _ => trivial) hK hP hD hS hA 0 0 rfl rfl rfl [0, 1] [0, 1, 2, 3, 4, 5, 6, 7, 8] [] [0, 1, 2, 3, 4, 5, 6, 7, 8] rfl rfl rfl rfl rfl (by decide) rfl rfl rfl hl.1 rfl (Nat.le_of_ble_eq_true rfl) d_B_fixed_17 ⟨Nat.zero_le _, Nat.zero_le _⟩ (st1 := [.int (bI (!pNone w (250 + lv) (250 + lv)))]) rfl (fun H locs hP hD hS => ?_)
    refine b_if_ne (tgt := 31) hx hb d_B_fixed_20 (by decide) (fun c_20 => ?_) (fun c_20 => ?_)
    · exact absurd c_20 (by rw [hm]; decide)
    · exact ft_throw (n0 := n0) (own := R_B) (E := X_UOE) (names := X_up) hx hb hst hlocks hnone (hl.1.trans hml.symm) hown (by decide +kernel) fit_up (hts _ wd_424) (hts _ wd_11) (at_of at1_UOE at2_UOE hts hX.2.2.2) at3_UOE hX hAn hAe hK hP hD hS (Nat.le_of_ble_eq_true rfl) (Nat.le_of_ble_eq_true rfl) (Nat.le_of_ble_eq_true rfl) (Nat.le_of_ble_eq_true rfl) d_B_fixed_23 d_B_fixed_26 d_B_fixed_27 d_B_fixed_30
  · exact absurd hf (by rw [c_5]; decide)
set_option maxHeartbeats 4000000 in
set_option maxRecDepth 100000 in
theorem e_B_least_1 (l : Launch) (D : va_G) (hst : l.stackTraces = false) (n0 : Nat) (ad : Nat → Nat) (cL cI : ClassId) (nv nb nt nf na lv nm : Nat) (vw vp tw ab am : Nat → Nat) (w : Nat → Int64) (hok : Bok nv nb nt nf na lv nm vw vp tw ab am) (u : ∀ i, i < 9 → n0 ≤ ad i) (x : Int32) (hf : hasB x nt = false) : Ft l y_B_least (wk y_B_least b_B_least 4 (some .int)) rt_B_least D cls [(cL, .long), (cI, .int)] [.ref (ad 0), .int x] (bsW ad cL cI nv nb nt nf na lv nm vw vp tw ab am w) (Ze n0) X_NSE (bsW ad cL cI nv nb nt nf na lv nm vw vp tw ab am w) := by
  refine Ft.of (by decide) rfl (Nat.le_of_ble_eq_true rfl) ?_
  intro p e s m below meth c A ls hx hb hml hr hts0 hown hlocks hnone hP hK hD hS hA hAe hX hl
  have hts : ∀ w ∈ lw_ok, w.before _ s = true := fun w h => hts0 w (List.mem_cons_of_mem _ h)
  have hown : s.vm.findClass R_B = some m.cls := hown
  have hP : va_P D cls (bsW ad cL cI nv nb nt nf na lv nm vw vp tw ab am w) s.heap := hP
  have hl : lv_has ls 4 [(0, .ref (ad 0)), (1, .int x)] := hl
  have hAn : ∀ q, A q → n0 ≤ q := fun q h => by rw [hAe] at h; exact Ze_AB hX u h
  obtain ⟨o_nv, o_nb, o_nt, o_nf, o_na, o_lv, o_nm, o_vw, o_tw, o_am, o_ab⟩ := id hok
  refine lv_aload_n hx hb d_B_least_0 rfl (lv_at hl 0 rfl) ?_
  refine lv_iload_n hx hb d_B_least_1 rfl (lv_at hl 1 rfl) ?_
  refine fn_V (ws' := (bsW ad cL cI nv nb nt nf na lv nm vw vp tw ab am w)) (w1 := (bsW ad cL cI nv nb nt nf na lv nm vw vp tw ab am w)) (wc := (bsW ad cL cI nv nb nt nf na lv nm vw vp tw ab am w)) (wr := []) ⟨hx, hb, hml, hown, hts⟩ (c_B_hasTerm l D ad cL cI nv nb nt nf na lv nm vw vp tw ab am w hok x) ⟨callB_of 1 hts (gW wd_252) rfl rfl rfl (hts _ wd_1) (hts _ wd_249) hd_B_hasTerm ⟨Nat.le_of_ble_eq_true rfl, Nat.le_of_ble_eq_true rfl⟩, hts _ wd_251, hts _ wd_p10⟩ XT_ok (fun _ _ _ => trivial) hK hP hD hS hA 0 0 rfl rfl rfl [0, 1] [0, 1, 2, 3, 4, 5, 6, 7, 8] [] [0, 1, 2, 3, 4, 5, 6, 7, 8] rfl rfl rfl rfl rfl (by decide) rfl rfl rfl hl.1 rfl (Nat.le_of_ble_eq_true rfl) d_B_least_2 ⟨Nat.zero_le _, Nat.zero_le _⟩ (st1 := [.int (bI (hasB x nt))]) rfl (fun H locs hP hD hS => ?_)
  refine b_if_ne (tgt := 16) hx hb d_B_least_5 (by decide) (fun c_5 => ?_) (fun c_5 => ?_)
  · exact absurd c_5 (by rw [hf]; decide)
  · exact ft_throw (n0 := n0) (own := R_B) (E := X_NSE) (names := X_up) hx hb hst hlocks hnone (hl.1.trans hml.symm) hown (by decide +kernel) fit_up (hts _ wd_387) (hts _ wd_10) (at_of at1_NSE at2_NSE hts hX.2.2.2) at3_NSE hX hAn hAe hK hP hD hS (Nat.le_of_ble_eq_true rfl) (Nat.le_of_ble_eq_true rfl) (Nat.le_of_ble_eq_true rfl) (Nat.le_of_ble_eq_true rfl) d_B_least_8 d_B_least_11 d_B_least_12 d_B_least_15
set_option maxHeartbeats 4000000 in
set_option maxRecDepth 100000 in
theorem e_B_least_2 (l : Launch) (D : va_G) (hst : l.stackTraces = false) (n0 : Nat) (ad : Nat → Nat) (cL cI : ClassId) (nv nb nt nf na lv nm : Nat) (vw vp tw ab am : Nat → Nat) (w : Nat → Int64) (hok : Bok nv nb nt nf na lv nm vw vp tw ab am) (u : ∀ i, i < 9 → n0 ≤ ad i) (x : Int32) (hf : hasB x nt = true) (hm : (!pNone w (250 + lv) (250 + lv)) = false) : Ft l y_B_least (wk y_B_least b_B_least 4 (some .int)) rt_B_least D cls [(cL, .long), (cI, .int)] [.ref (ad 0), .int x] (bsW ad cL cI nv nb nt nf na lv nm vw vp tw ab am w) (Ze n0) X_UOE (bsW ad cL cI nv nb nt nf na lv nm vw vp tw ab am w) := by
  refine Ft.of (by decide) rfl (Nat.le_of_ble_eq_true rfl) ?_
  intro p e s m below meth c A ls hx hb hml hr hts0 hown hlocks hnone hP hK hD hS hA hAe hX hl
  have hts : ∀ w ∈ lw_ok, w.before _ s = true := fun w h => hts0 w (List.mem_cons_of_mem _ h)
  have hown : s.vm.findClass R_B = some m.cls := hown
  have hP : va_P D cls (bsW ad cL cI nv nb nt nf na lv nm vw vp tw ab am w) s.heap := hP
  have hl : lv_has ls 4 [(0, .ref (ad 0)), (1, .int x)] := hl
  have hAn : ∀ q, A q → n0 ≤ q := fun q h => by rw [hAe] at h; exact Ze_AB hX u h
  obtain ⟨o_nv, o_nb, o_nt, o_nf, o_na, o_lv, o_nm, o_vw, o_tw, o_am, o_ab⟩ := id hok
  refine lv_aload_n hx hb d_B_least_0 rfl (lv_at hl 0 rfl) ?_
  refine lv_iload_n hx hb d_B_least_1 rfl (lv_at hl 1 rfl) ?_
  refine fn_V (ws' := (bsW ad cL cI nv nb nt nf na lv nm vw vp tw ab am w)) (w1 := (bsW ad cL cI nv nb nt nf na lv nm vw vp tw ab am w)) (wc := (bsW ad cL cI nv nb nt nf na lv nm vw vp tw ab am w)) (wr := []) ⟨hx, hb, hml, hown, hts⟩ (c_B_hasTerm l D ad cL cI nv nb nt nf na lv nm vw vp tw ab am w hok x) ⟨callB_of 1 hts (gW wd_252) rfl rfl rfl (hts _ wd_1) (hts _ wd_249) hd_B_hasTerm ⟨Nat.le_of_ble_eq_true rfl, Nat.le_of_ble_eq_true rfl⟩, hts _ wd_251, hts _ wd_p10⟩ XT_ok (fun _ _ _ => trivial) hK hP hD hS hA 0 0 rfl rfl rfl [0, 1] [0, 1, 2, 3, 4, 5, 6, 7, 8] [] [0, 1, 2, 3, 4, 5, 6, 7, 8] rfl rfl rfl rfl rfl (by decide) rfl rfl rfl hl.1 rfl (Nat.le_of_ble_eq_true rfl) d_B_least_2 ⟨Nat.zero_le _, Nat.zero_le _⟩ (st1 := [.int (bI (hasB x nt))]) rfl (fun H locs hP hD hS => ?_)
  refine b_if_ne (tgt := 16) hx hb d_B_least_5 (by decide) (fun c_5 => ?_) (fun c_5 => ?_)
  · refine lv_aload_n hx hb d_B_least_16 rfl (lv_at hl 0 rfl) ?_
    refine fn_V (ws' := (bsW ad cL cI nv nb nt nf na lv nm vw vp tw ab am w)) (w1 := (bsW ad cL cI nv nb nt nf na lv nm vw vp tw ab am w)) (wc := (bsW ad cL cI nv nb nt nf na lv nm vw vp tw ab am w)) (wr := []) ⟨hx, hb, hml, hown, hts⟩ (c_B_hasModel l D ad cL cI nv nb nt nf na lv nm vw vp tw ab am w hok ) ⟨callB_of 0 hts (gW wd_98) rfl rfl rfl (hts _ wd_1) (hts _ wd_95) hd_B_hasModel ⟨Nat.le_of_ble_eq_true rfl, Nat.le_of_ble_eq_true rfl⟩, hts _ wd_97, hts _ wd_p0⟩ XT_ok (fun _ _ _ => trivial) hK hP hD hS hA 0 0 rfl rfl rfl [0, 1] [0, 1, 2, 3, 4, 5, 6, 7, 8] [] [0, 1, 2, 3, 4, 5, 6, 7, 8] rfl rfl rfl rfl rfl (by decide) rfl rfl rfl hl.1 rfl (Nat.le_of_ble_eq_true rfl) d_B_least_17 ⟨Nat.zero_le _, Nat.zero_le _⟩ (st1 := [.int (bI (!pNone w (250 + lv) (250 + lv)))]) rfl (fun H locs hP hD hS => ?_)
    refine b_if_ne (tgt := 31) hx hb d_B_least_20 (by decide) (fun c_20 => ?_) (fun c_20 => ?_)
    · exact absurd c_20 (by rw [hm]; decide)
    · exact ft_throw (n0 := n0) (own := R_B) (E := X_UOE) (names := X_up) hx hb hst hlocks hnone (hl.1.trans hml.symm) hown (by decide +kernel) fit_up (hts _ wd_424) (hts _ wd_11) (at_of at1_UOE at2_UOE hts hX.2.2.2) at3_UOE hX hAn hAe hK hP hD hS (Nat.le_of_ble_eq_true rfl) (Nat.le_of_ble_eq_true rfl) (Nat.le_of_ble_eq_true rfl) (Nat.le_of_ble_eq_true rfl) d_B_least_23 d_B_least_26 d_B_least_27 d_B_least_30
  · exact absurd hf (by rw [c_5]; decide)
set_option maxHeartbeats 4000000 in
set_option maxRecDepth 100000 in
theorem e_B_blame_1 (l : Launch) (D : va_G) (hst : l.stackTraces = false) (n0 : Nat) (ad : Nat → Nat) (cL cI : ClassId) (nv nb nt nf na lv nm : Nat) (vw vp tw ab am : Nat → Nat) (w : Nat → Int64) (hok : Bok nv nb nt nf na lv nm vw vp tw ab am) (u : ∀ i, i < 9 → n0 ≤ ad i) (hm : pCan am lv nm (2 ^ nm - 1) w = true) : Ft l y_B_blame (wk y_B_blame b_B_blame 4 (some .int)) rt_B_blame D cls [(cL, .long), (cI, .int)] [.ref (ad 0)] (bsW ad cL cI nv nb nt nf na lv nm vw vp tw ab am w) (Ze n0) X_ISE (bsW ad cL cI nv nb nt nf na lv nm vw vp tw ab am (wAsm am lv nm (2 ^ nm - 1) w)) := by
  refine Ft.of (by decide) rfl (Nat.le_of_ble_eq_true rfl) ?_
  intro p e s m below meth c A ls hx hb hml hr hts0 hown hlocks hnone hP hK hD hS hA hAe hX hl
  have hts : ∀ w ∈ lw_ok, w.before _ s = true := fun w h => hts0 w (List.mem_cons_of_mem _ h)
  have hown : s.vm.findClass R_B = some m.cls := hown
  have hP : va_P D cls (bsW ad cL cI nv nb nt nf na lv nm vw vp tw ab am w) s.heap := hP
  have hl : lv_has ls 4 [(0, .ref (ad 0))] := hl
  have hAn : ∀ q, A q → n0 ≤ q := fun q h => by rw [hAe] at h; exact Ze_AB hX u h
  obtain ⟨o_nv, o_nb, o_nt, o_nf, o_na, o_lv, o_nm, o_vw, o_tw, o_am, o_ab⟩ := id hok
  have o2 : 2 ^ nm ≤ 256 := Nat.pow_le_pow_right (n := 2) (by decide) o_nm
  refine lv_aload_n hx hb d_B_blame_0 rfl (lv_at hl 0 rfl) ?_
  refine fn_V (ws' := (bsW ad cL cI nv nb nt nf na lv nm vw vp tw ab am w)) (w1 := (bsW ad cL cI nv nb nt nf na lv nm vw vp tw ab am w)) (wc := (bsW ad cL cI nv nb nt nf na lv nm vw vp tw ab am w)) (wr := []) ⟨hx, hb, hml, hown, hts⟩ (c_B_allAssumptions l D ad cL cI nv nb nt nf na lv nm vw vp tw ab am w hok ) ⟨callB_of 0 hts (gW wd_122) rfl rfl rfl (hts _ wd_1) (hts _ wd_119) hd_B_allAssumptions ⟨Nat.le_of_ble_eq_true rfl, Nat.le_of_ble_eq_true rfl⟩, hts _ wd_121, hts _ wd_p3⟩ XT_ok (fun _ _ _ => trivial) hK hP hD hS hA 0 0 rfl rfl rfl [0, 1] [0, 1, 2, 3, 4, 5, 6, 7, 8] [] [0, 1, 2, 3, 4, 5, 6, 7, 8] rfl rfl rfl rfl rfl (by decide) rfl rfl rfl hl.1 rfl (Nat.le_of_ble_eq_true rfl) d_B_blame_1 ⟨Nat.zero_le _, Nat.zero_le _⟩ (st1 := [.int (nI (2 ^ nm - 1))]) rfl (fun H locs hP hD hS => ?_)
  refine lv_istore_n (lv' := [(1, .int (nI (2 ^ nm - 1))), (0, .ref (ad 0))]) hx hb d_B_blame_4 rfl hl (by decide) rfl (fun ls hl => ?_)
  refine lv_aload_n hx hb d_B_blame_5 rfl (lv_at hl 1 rfl) ?_
  refine lv_iload_n hx hb d_B_blame_6 rfl (lv_at hl 0 rfl) ?_
  refine fn_V (ws' := (bsW ad cL cI nv nb nt nf na lv nm vw vp tw ab am (wAsm am lv nm (2 ^ nm - 1) w))) (w1 := (bsW ad cL cI nv nb nt nf na lv nm vw vp tw ab am (wAsm am lv nm (2 ^ nm - 1) w))) (wc := (bsW ad cL cI nv nb nt nf na lv nm vw vp tw ab am w)) (wr := []) ⟨hx, hb, hml, hown, hts⟩ (c_B_canAssume l D ad cL cI nv nb nt nf na lv nm vw vp tw ab am w hok (2 ^ nm - 1) (by omega)) ⟨callB_of 1 hts (gW wd_126) rfl rfl rfl (hts _ wd_1) (hts _ wd_123) hd_B_canAssume ⟨Nat.le_of_ble_eq_true rfl, Nat.le_of_ble_eq_true rfl⟩, hts _ wd_125, hts _ wd_p4⟩ XT_ok (fun _ _ _ => trivial) hK hP hD hS hA 0 0 rfl rfl rfl [0, 1] [0, 1, 2, 3, 4, 5, 6, 7, 8] [] [0, 1, 2, 3, 4, 5, 6, 7, 8] rfl rfl rfl rfl rfl (by decide) rfl rfl rfl hl.1 rfl (Nat.le_of_ble_eq_true rfl) d_B_blame_7 ⟨Nat.zero_le _, Nat.zero_le _⟩ (st1 := [.int (bI (pCan am lv nm (2 ^ nm - 1) w))]) rfl (fun H locs hP hD hS => ?_)
  refine b_if_eq (tgt := 21) hx hb d_B_blame_10 (by decide) (fun c_10 => ?_) (fun c_10 => ?_)
  · exact absurd hm (by rw [c_10]; decide)
  · exact ft_throw (n0 := n0) (own := R_B) (E := X_ISE) (names := X_up) hx hb hst hlocks hnone (hl.1.trans hml.symm) hown (by decide +kernel) fit_up (hts _ wd_211) (hts _ wd_9) (at_of at1_ISE at2_ISE hts hX.2.2.2) at3_ISE hX hAn hAe hK hP hD hS (Nat.le_of_ble_eq_true rfl) (Nat.le_of_ble_eq_true rfl) (Nat.le_of_ble_eq_true rfl) (Nat.le_of_ble_eq_true rfl) d_B_blame_13 d_B_blame_16 d_B_blame_17 d_B_blame_20
set_option maxHeartbeats 4000000 in
set_option maxRecDepth 100000 in
theorem e_B_count_1 (l : Launch) (D : va_G) (hst : l.stackTraces = false) (n0 : Nat) (ad : Nat → Nat) (cL cI : ClassId) (nv nb nt nf na lv nm : Nat) (vw vp tw ab am : Nat → Nat) (w : Nat → Int64) (hok : Bok nv nb nt nf na lv nm vw vp tw ab am) (u : ∀ i, i < 9 → n0 ≤ ad i) (x : Int32) (hk : x.toInt < 0 ∨ 6 < x.toInt) : Ft l y_B_count (wk y_B_count b_B_count 2 (some .int)) rt_B_count D cls [(cL, .long), (cI, .int)] [.ref (ad 0), .int x] (bsW ad cL cI nv nb nt nf na lv nm vw vp tw ab am w) (Ze n0) X_IAE (bsW ad cL cI nv nb nt nf na lv nm vw vp tw ab am w) := by
  refine Ft.of (by decide) rfl (Nat.le_of_ble_eq_true rfl) ?_
  intro p e s m below meth c A ls hx hb hml hr hts0 hown hlocks hnone hP hK hD hS hA hAe hX hl
  have hts : ∀ w ∈ lw_ok, w.before _ s = true := fun w h => hts0 w (List.mem_cons_of_mem _ h)
  have hown : s.vm.findClass R_B = some m.cls := hown
  have hP : va_P D cls (bsW ad cL cI nv nb nt nf na lv nm vw vp tw ab am w) s.heap := hP
  have hl : lv_has ls 2 [(0, .ref (ad 0)), (1, .int x)] := hl
  have hAn : ∀ q, A q → n0 ≤ q := fun q h => by rw [hAe] at h; exact Ze_AB hX u h
  obtain ⟨o_nv, o_nb, o_nt, o_nf, o_na, o_lv, o_nm, o_vw, o_tw, o_am, o_ab⟩ := id hok
  refine lv_iload_n hx hb d_B_count_0 rfl (lv_at hl 1 rfl) ?_
  refine lv_tableOut (tgt := 79) hx hb d_B_count_1 hk (by decide) ?_
  exact ft_throw (n0 := n0) (own := R_B) (E := X_IAE) (names := X_up) hx hb hst hlocks hnone (hl.1.trans hml.symm) hown (by decide +kernel) fit_up (hts _ wd_147) (hts _ wd_8) (at_of at1_IAE at2_IAE hts hX.2.2.2) at3_IAE hX hAn hAe hK hP hD hS (Nat.le_of_ble_eq_true rfl) (Nat.le_of_ble_eq_true rfl) (Nat.le_of_ble_eq_true rfl) (Nat.le_of_ble_eq_true rfl) d_B_count_79 d_B_count_82 d_B_count_83 d_B_count_86
