set_option maxHeartbeats 4000000 in
set_option maxRecDepth 100000 in
theorem c_B_widthToBuild_0 (l : Launch) (D : va_G) (ad : Nat → Nat) (cL cI : ClassId) (nv nb nt nf na lv nm : Nat) (vw vp tw ab am : Nat → Nat) (w : Nat → Int64) (hok : Bok nv nb nt nf na lv nm vw vp tw ab am) (ka kb kc : Int32) : Fn l y_B_widthToBuild (wk y_B_widthToBuild b_B_widthToBuild 5 (some .int)) rm_B_widthToBuild D cls [(cL, .long), (cI, .int)] [.ref (ad 0), .int (nI 0), .int ka, .int kb, .int kc] (bsW ad cL cI nv nb nt nf na lv nm vw vp tw ab am w) XT (some (.int (nI (pWk nv nt nf vw tw 0 ka kb kc)))) (bsW ad cL cI nv nb nt nf na lv nm vw vp tw ab am w) := by
  refine Fn.of (by decide) rfl (Nat.le_of_ble_eq_true rfl) ?_
  intro p e s m below meth c A ls hx hb hml hr hts0 hown hlocks hnm hP hK hD hS hA hAe hX hl
  have hts : ∀ w ∈ lw_ok, w.before _ s = true := fun w h => hts0 w (List.mem_cons_of_mem _ h)
  have hown : s.vm.findClass R_B = some m.cls := hown
  have hP : va_P D cls (bsW ad cL cI nv nb nt nf na lv nm vw vp tw ab am w) s.heap := hP
  have hl : lv_has ls 5 [(0, .ref (ad 0)), (1, .int (nI 0)), (2, .int ka), (3, .int kb), (4, .int kc)] := hl
  obtain ⟨o_nv, o_nb, o_nt, o_nf, o_na, o_lv, o_nm, o_vw, o_tw, o_am, o_ab⟩ := id hok
  refine lv_iload_n hx hb d_B_widthToBuild_0 rfl (lv_at hl 1 rfl) ?_
  refine lv_tableIn (tgt := 76) (off := 75) hx hb d_B_widthToBuild_1 (by decide +kernel) (by decide +kernel) (by decide +kernel) (by decide) ?_
  refine lv_iload_n hx hb d_B_widthToBuild_76 rfl (lv_at hl 3 rfl) ?_
  refine fn_S (ws' := (bsW ad cL cI nv nb nt nf na lv nm vw vp tw ab am w)) (w1 := (nilW)) (wc := (nilW)) (wr := [(ad 0, .inr (0, [.ref (ad 2), .ref (ad 1), .ref (ad 4), .ref (ad 5), .int (nI nv), .int (nI nb), .ref (ad 6), .int (nI nt), .int (nI nf), .ref (ad 7), .int (nI na), .int (nI lv), .ref (ad 8), .int (nI nm)])), (ad 1, .inr (2, [.ref (ad 2)])), (ad 2, .inr (1, [.ref (ad 3)])), (ad 3, .inl (cL, 4160, .inr (.inl w))), (ad 4, .inl (cI, 6, .inl (fun j => nI (vw j)))), (ad 5, .inl (cI, 6, .inl (fun j => nI (vp j)))), (ad 6, .inl (cI, 50, .inl (fun j => nI (tw j)))), (ad 7, .inl (cI, 6, .inl (fun j => nI (ab j)))), (ad 8, .inl (cI, 8, .inl (fun j => nI (am j))))]) ⟨hx, hb, hml, hown, hts⟩ (c_B_isWidth l D kb) ⟨callB_of 1 hts (gW wd_146) rfl rfl rfl (hts _ wd_1) (hts _ wd_144) hd_B_isWidth ⟨Nat.le_of_ble_eq_true rfl, Nat.le_of_ble_eq_true rfl⟩, hts _ wd_145⟩ XT_ok (fun _ _ _ => trivial) hK hP hD hS hA [] [] [0, 1, 2, 3, 4, 5, 6, 7, 8] [0, 1, 2, 3, 4, 5, 6, 7, 8] rfl rfl rfl rfl rfl (by decide) rfl rfl rfl hl.1 rfl (Nat.le_of_ble_eq_true rfl) d_B_widthToBuild_77 ⟨Nat.zero_le _, Nat.zero_le _⟩ (st1 := [.int (bI (wdB kb))]) rfl (fun H locs hP hD hS => ?_)
  refine b_if_eq (tgt := 98) hx hb d_B_widthToBuild_80 (by decide) (fun c_80 => ?_) (fun c_80 => ?_)
  · refine lv_iconst (v := nI 0) hx hb d_B_widthToBuild_98 (by decide) ?_
    exact fn_iret hx hb hr hlocks hAe hK hP hD hS (congrArg nI (pW0_w c_80).symm) d_B_widthToBuild_99
  · obtain ⟨j, hj1, hj4, rfl⟩ := wdB_nat c_80
    have o2 : 2 ^ j ≤ 16 := Nat.pow_le_pow_right (by decide) hj4
    refine lv_iload_n hx hb d_B_widthToBuild_83 rfl (lv_at hl 2 rfl) ?_
    refine z_if_lt (tgt := 98) hx hb rfl d_B_widthToBuild_84 (by decide) (fun c_84 => ?_) (fun c_84 => ?_)
    · refine lv_iconst (v := nI 0) hx hb d_B_widthToBuild_98 (by decide) ?_
      exact fn_iret hx hb hr hlocks hAe hK hP hD hS (congrArg nI (pW0_f hj4 (by omega)).symm) d_B_widthToBuild_99
    · refine lv_iload_n hx hb d_B_widthToBuild_87 rfl (lv_at hl 2 rfl) ?_
      refine lv_iconst (v := nI 1) hx hb d_B_widthToBuild_88 (by decide) ?_
      refine lv_iload_n hx hb d_B_widthToBuild_89 rfl (lv_at hl 3 rfl) ?_
      refine n_shl1 hx hb (by omega) d_B_widthToBuild_90 ?_
      refine z_icmp_ge (tgt := 98) hx hb rfl (nI_toInt (by omega)) d_B_widthToBuild_91 (by decide) (fun c_91 => ?_) (fun c_91 => ?_)
      · refine lv_iconst (v := nI 0) hx hb d_B_widthToBuild_98 (by decide) ?_
        exact fn_iret hx hb hr hlocks hAe hK hP hD hS (congrArg nI (pW0_f hj4 (by omega)).symm) d_B_widthToBuild_99
      · refine lv_iload_n hx hb d_B_widthToBuild_94 rfl (lv_at hl 3 rfl) ?_
        refine lv_goto (tgt := 99) hx hb d_B_widthToBuild_95 (by decide) ?_
        exact fn_iret hx hb hr hlocks hAe hK hP hD hS (congrArg nI (pW0_t hj1 hj4 (by omega) (by omega)).symm) d_B_widthToBuild_99
set_option maxHeartbeats 4000000 in
set_option maxRecDepth 100000 in
theorem c_B_widthToBuild_1 (l : Launch) (D : va_G) (ad : Nat → Nat) (cL cI : ClassId) (nv nb nt nf na lv nm : Nat) (vw vp tw ab am : Nat → Nat) (w : Nat → Int64) (hok : Bok nv nb nt nf na lv nm vw vp tw ab am) (ka kb kc : Int32) : Fn l y_B_widthToBuild (wk y_B_widthToBuild b_B_widthToBuild 5 (some .int)) rm_B_widthToBuild D cls [(cL, .long), (cI, .int)] [.ref (ad 0), .int (nI 1), .int ka, .int kb, .int kc] (bsW ad cL cI nv nb nt nf na lv nm vw vp tw ab am w) XT (some (.int (nI (pWk nv nt nf vw tw 1 ka kb kc)))) (bsW ad cL cI nv nb nt nf na lv nm vw vp tw ab am w) := by
  refine Fn.of (by decide) rfl (Nat.le_of_ble_eq_true rfl) ?_
  intro p e s m below meth c A ls hx hb hml hr hts0 hown hlocks hnm hP hK hD hS hA hAe hX hl
  have hts : ∀ w ∈ lw_ok, w.before _ s = true := fun w h => hts0 w (List.mem_cons_of_mem _ h)
  have hown : s.vm.findClass R_B = some m.cls := hown
  have hP : va_P D cls (bsW ad cL cI nv nb nt nf na lv nm vw vp tw ab am w) s.heap := hP
  have hl : lv_has ls 5 [(0, .ref (ad 0)), (1, .int (nI 1)), (2, .int ka), (3, .int kb), (4, .int kc)] := hl
  obtain ⟨o_nv, o_nb, o_nt, o_nf, o_na, o_lv, o_nm, o_vw, o_tw, o_am, o_ab⟩ := id hok
  refine lv_iload_n hx hb d_B_widthToBuild_0 rfl (lv_at hl 1 rfl) ?_
  refine lv_tableIn (tgt := 100) (off := 99) hx hb d_B_widthToBuild_1 (by decide +kernel) (by decide +kernel) (by decide +kernel) (by decide) ?_
  refine lv_aload_n hx hb d_B_widthToBuild_100 rfl (lv_at hl 0 rfl) ?_
  refine lv_iload_n hx hb d_B_widthToBuild_101 rfl (lv_at hl 2 rfl) ?_
  refine fn_V (ws' := (bsW ad cL cI nv nb nt nf na lv nm vw vp tw ab am w)) (w1 := (bsW ad cL cI nv nb nt nf na lv nm vw vp tw ab am w)) (wc := (bsW ad cL cI nv nb nt nf na lv nm vw vp tw ab am w)) (wr := []) ⟨hx, hb, hml, hown, hts⟩ (c_B_hasVariable l D ad cL cI nv nb nt nf na lv nm vw vp tw ab am w hok ka) ⟨callB_of 1 hts (gW wd_240) rfl rfl rfl (hts _ wd_1) (hts _ wd_237) hd_B_hasVariable ⟨Nat.le_of_ble_eq_true rfl, Nat.le_of_ble_eq_true rfl⟩, hts _ wd_239, hts _ wd_p7⟩ XT_ok (fun _ _ _ => trivial) hK hP hD hS hA 0 0 rfl rfl rfl [0, 1] [0, 1, 2, 3, 4, 5, 6, 7, 8] [] [0, 1, 2, 3, 4, 5, 6, 7, 8] rfl rfl rfl rfl rfl (by decide) rfl rfl rfl hl.1 rfl (Nat.le_of_ble_eq_true rfl) d_B_widthToBuild_102 ⟨Nat.zero_le _, Nat.zero_le _⟩ (st1 := [.int (bI (hasB ka nv))]) rfl (fun H locs hP hD hS => ?_)
  refine b_if_eq (tgt := 117) hx hb d_B_widthToBuild_105 (by decide) (fun c_105 => ?_) (fun c_105 => ?_)
  · refine lv_iconst (v := nI 0) hx hb d_B_widthToBuild_117 (by decide) ?_
    exact fn_iret hx hb hr hlocks hAe hK hP hD hS (congrArg nI (pW1_f c_105).symm) d_B_widthToBuild_118
  · obtain ⟨j, hj, rfl⟩ := hasB_nat c_105
    refine lv_aload_n hx hb d_B_widthToBuild_108 rfl (lv_at hl 0 rfl) ?_
    refine va_get (D := D) (ci := 0) (v := .ref (ad 4)) (C := R_B) (T := F_B) (N := 14) hx hb hts in_B hown hK hP 0 rfl rfl 2 (by decide) (hts _ wd_49) (fun _ h9 => h9) rfl d_B_widthToBuild_109 ?_
    refine lv_iload_n hx hb d_B_widthToBuild_112 rfl (lv_at hl 2 rfl) ?_
    refine n_iald hx hb hK hP 4 1 rfl rfl (i := j) (by omega) (by omega) d_B_widthToBuild_113 ?_
    refine lv_goto (tgt := 118) hx hb d_B_widthToBuild_114 (by decide) ?_
    exact fn_iret hx hb hr hlocks hAe hK hP hD hS (congrArg nI (pW1_t hj (by omega)).symm) d_B_widthToBuild_118
set_option maxHeartbeats 4000000 in
set_option maxRecDepth 100000 in
theorem c_B_widthToBuild_2 (l : Launch) (D : va_G) (ad : Nat → Nat) (cL cI : ClassId) (nv nb nt nf na lv nm : Nat) (vw vp tw ab am : Nat → Nat) (w : Nat → Int64) (hok : Bok nv nb nt nf na lv nm vw vp tw ab am) (ka kb kc : Int32) : Fn l y_B_widthToBuild (wk y_B_widthToBuild b_B_widthToBuild 5 (some .int)) rm_B_widthToBuild D cls [(cL, .long), (cI, .int)] [.ref (ad 0), .int (nI 2), .int ka, .int kb, .int kc] (bsW ad cL cI nv nb nt nf na lv nm vw vp tw ab am w) XT (some (.int (nI (pWk nv nt nf vw tw 2 ka kb kc)))) (bsW ad cL cI nv nb nt nf na lv nm vw vp tw ab am w) := by
  refine Fn.of (by decide) rfl (Nat.le_of_ble_eq_true rfl) ?_
  intro p e s m below meth c A ls hx hb hml hr hts0 hown hlocks hnm hP hK hD hS hA hAe hX hl
  have hts : ∀ w ∈ lw_ok, w.before _ s = true := fun w h => hts0 w (List.mem_cons_of_mem _ h)
  have hown : s.vm.findClass R_B = some m.cls := hown
  have hP : va_P D cls (bsW ad cL cI nv nb nt nf na lv nm vw vp tw ab am w) s.heap := hP
  have hl : lv_has ls 5 [(0, .ref (ad 0)), (1, .int (nI 2)), (2, .int ka), (3, .int kb), (4, .int kc)] := hl
  obtain ⟨o_nv, o_nb, o_nt, o_nf, o_na, o_lv, o_nm, o_vw, o_tw, o_am, o_ab⟩ := id hok
  refine lv_iload_n hx hb d_B_widthToBuild_0 rfl (lv_at hl 1 rfl) ?_
  refine lv_tableIn (tgt := 119) (off := 118) hx hb d_B_widthToBuild_1 (by decide +kernel) (by decide +kernel) (by decide +kernel) (by decide) ?_
  refine lv_aload_n hx hb d_B_widthToBuild_119 rfl (lv_at hl 0 rfl) ?_
  refine lv_iload_n hx hb d_B_widthToBuild_120 rfl (lv_at hl 2 rfl) ?_
  refine lv_iload_n hx hb d_B_widthToBuild_121 rfl (lv_at hl 3 rfl) ?_
  refine fn_V (ws' := (bsW ad cL cI nv nb nt nf na lv nm vw vp tw ab am w)) (w1 := (bsW ad cL cI nv nb nt nf na lv nm vw vp tw ab am w)) (wc := (bsW ad cL cI nv nb nt nf na lv nm vw vp tw ab am w)) (wr := []) ⟨hx, hb, hml, hown, hts⟩ (c_B_commonWidth l D ad cL cI nv nb nt nf na lv nm vw vp tw ab am w hok ka kb) ⟨callB_of 2 hts (gW wd_244) rfl rfl rfl (hts _ wd_1) (hts _ wd_241) hd_B_commonWidth ⟨Nat.le_of_ble_eq_true rfl, Nat.le_of_ble_eq_true rfl⟩, hts _ wd_243, hts _ wd_p8⟩ XT_ok (fun _ _ _ => trivial) hK hP hD hS hA 0 0 rfl rfl rfl [0, 1] [0, 1, 2, 3, 4, 5, 6, 7, 8] [] [0, 1, 2, 3, 4, 5, 6, 7, 8] rfl rfl rfl rfl rfl (by decide) rfl rfl rfl hl.1 rfl (Nat.le_of_ble_eq_true rfl) d_B_widthToBuild_122 ⟨Nat.zero_le _, Nat.zero_le _⟩ (st1 := [.int (nI (cW nt tw ka kb))]) rfl (fun H locs hP hD hS => ?_)
  have tl4 := cW_le (nt := nt) (tw := tw) o_tw (by omega) ka kb
  exact fn_iret hx hb hr hlocks hAe hK hP hD hS rfl d_B_widthToBuild_125
set_option maxHeartbeats 4000000 in
set_option maxRecDepth 100000 in
theorem c_B_widthToBuild_3 (l : Launch) (D : va_G) (ad : Nat → Nat) (cL cI : ClassId) (nv nb nt nf na lv nm : Nat) (vw vp tw ab am : Nat → Nat) (w : Nat → Int64) (hok : Bok nv nb nt nf na lv nm vw vp tw ab am) (ka kb kc : Int32) : Fn l y_B_widthToBuild (wk y_B_widthToBuild b_B_widthToBuild 5 (some .int)) rm_B_widthToBuild D cls [(cL, .long), (cI, .int)] [.ref (ad 0), .int (nI 3), .int ka, .int kb, .int kc] (bsW ad cL cI nv nb nt nf na lv nm vw vp tw ab am w) XT (some (.int (nI (pWk nv nt nf vw tw 3 ka kb kc)))) (bsW ad cL cI nv nb nt nf na lv nm vw vp tw ab am w) := by
  refine Fn.of (by decide) rfl (Nat.le_of_ble_eq_true rfl) ?_
  intro p e s m below meth c A ls hx hb hml hr hts0 hown hlocks hnm hP hK hD hS hA hAe hX hl
  have hts : ∀ w ∈ lw_ok, w.before _ s = true := fun w h => hts0 w (List.mem_cons_of_mem _ h)
  have hown : s.vm.findClass R_B = some m.cls := hown
  have hP : va_P D cls (bsW ad cL cI nv nb nt nf na lv nm vw vp tw ab am w) s.heap := hP
  have hl : lv_has ls 5 [(0, .ref (ad 0)), (1, .int (nI 3)), (2, .int ka), (3, .int kb), (4, .int kc)] := hl
  obtain ⟨o_nv, o_nb, o_nt, o_nf, o_na, o_lv, o_nm, o_vw, o_tw, o_am, o_ab⟩ := id hok
  refine lv_iload_n hx hb d_B_widthToBuild_0 rfl (lv_at hl 1 rfl) ?_
  refine lv_tableIn (tgt := 119) (off := 118) hx hb d_B_widthToBuild_1 (by decide +kernel) (by decide +kernel) (by decide +kernel) (by decide) ?_
  refine lv_aload_n hx hb d_B_widthToBuild_119 rfl (lv_at hl 0 rfl) ?_
  refine lv_iload_n hx hb d_B_widthToBuild_120 rfl (lv_at hl 2 rfl) ?_
  refine lv_iload_n hx hb d_B_widthToBuild_121 rfl (lv_at hl 3 rfl) ?_
  refine fn_V (ws' := (bsW ad cL cI nv nb nt nf na lv nm vw vp tw ab am w)) (w1 := (bsW ad cL cI nv nb nt nf na lv nm vw vp tw ab am w)) (wc := (bsW ad cL cI nv nb nt nf na lv nm vw vp tw ab am w)) (wr := []) ⟨hx, hb, hml, hown, hts⟩ (c_B_commonWidth l D ad cL cI nv nb nt nf na lv nm vw vp tw ab am w hok ka kb) ⟨callB_of 2 hts (gW wd_244) rfl rfl rfl (hts _ wd_1) (hts _ wd_241) hd_B_commonWidth ⟨Nat.le_of_ble_eq_true rfl, Nat.le_of_ble_eq_true rfl⟩, hts _ wd_243, hts _ wd_p8⟩ XT_ok (fun _ _ _ => trivial) hK hP hD hS hA 0 0 rfl rfl rfl [0, 1] [0, 1, 2, 3, 4, 5, 6, 7, 8] [] [0, 1, 2, 3, 4, 5, 6, 7, 8] rfl rfl rfl rfl rfl (by decide) rfl rfl rfl hl.1 rfl (Nat.le_of_ble_eq_true rfl) d_B_widthToBuild_122 ⟨Nat.zero_le _, Nat.zero_le _⟩ (st1 := [.int (nI (cW nt tw ka kb))]) rfl (fun H locs hP hD hS => ?_)
  have tl5 := cW_le (nt := nt) (tw := tw) o_tw (by omega) ka kb
  exact fn_iret hx hb hr hlocks hAe hK hP hD hS rfl d_B_widthToBuild_125
set_option maxHeartbeats 4000000 in
set_option maxRecDepth 100000 in
theorem c_B_widthToBuild_4 (l : Launch) (D : va_G) (ad : Nat → Nat) (cL cI : ClassId) (nv nb nt nf na lv nm : Nat) (vw vp tw ab am : Nat → Nat) (w : Nat → Int64) (hok : Bok nv nb nt nf na lv nm vw vp tw ab am) (ka kb kc : Int32) : Fn l y_B_widthToBuild (wk y_B_widthToBuild b_B_widthToBuild 5 (some .int)) rm_B_widthToBuild D cls [(cL, .long), (cI, .int)] [.ref (ad 0), .int (nI 4), .int ka, .int kb, .int kc] (bsW ad cL cI nv nb nt nf na lv nm vw vp tw ab am w) XT (some (.int (nI (pWk nv nt nf vw tw 4 ka kb kc)))) (bsW ad cL cI nv nb nt nf na lv nm vw vp tw ab am w) := by
  refine Fn.of (by decide) rfl (Nat.le_of_ble_eq_true rfl) ?_
  intro p e s m below meth c A ls hx hb hml hr hts0 hown hlocks hnm hP hK hD hS hA hAe hX hl
  have hts : ∀ w ∈ lw_ok, w.before _ s = true := fun w h => hts0 w (List.mem_cons_of_mem _ h)
  have hown : s.vm.findClass R_B = some m.cls := hown
  have hP : va_P D cls (bsW ad cL cI nv nb nt nf na lv nm vw vp tw ab am w) s.heap := hP
  have hl : lv_has ls 5 [(0, .ref (ad 0)), (1, .int (nI 4)), (2, .int ka), (3, .int kb), (4, .int kc)] := hl
  obtain ⟨o_nv, o_nb, o_nt, o_nf, o_na, o_lv, o_nm, o_vw, o_tw, o_am, o_ab⟩ := id hok
  refine lv_iload_n hx hb d_B_widthToBuild_0 rfl (lv_at hl 1 rfl) ?_
  refine lv_tableIn (tgt := 119) (off := 118) hx hb d_B_widthToBuild_1 (by decide +kernel) (by decide +kernel) (by decide +kernel) (by decide) ?_
  refine lv_aload_n hx hb d_B_widthToBuild_119 rfl (lv_at hl 0 rfl) ?_
  refine lv_iload_n hx hb d_B_widthToBuild_120 rfl (lv_at hl 2 rfl) ?_
  refine lv_iload_n hx hb d_B_widthToBuild_121 rfl (lv_at hl 3 rfl) ?_
  refine fn_V (ws' := (bsW ad cL cI nv nb nt nf na lv nm vw vp tw ab am w)) (w1 := (bsW ad cL cI nv nb nt nf na lv nm vw vp tw ab am w)) (wc := (bsW ad cL cI nv nb nt nf na lv nm vw vp tw ab am w)) (wr := []) ⟨hx, hb, hml, hown, hts⟩ (c_B_commonWidth l D ad cL cI nv nb nt nf na lv nm vw vp tw ab am w hok ka kb) ⟨callB_of 2 hts (gW wd_244) rfl rfl rfl (hts _ wd_1) (hts _ wd_241) hd_B_commonWidth ⟨Nat.le_of_ble_eq_true rfl, Nat.le_of_ble_eq_true rfl⟩, hts _ wd_243, hts _ wd_p8⟩ XT_ok (fun _ _ _ => trivial) hK hP hD hS hA 0 0 rfl rfl rfl [0, 1] [0, 1, 2, 3, 4, 5, 6, 7, 8] [] [0, 1, 2, 3, 4, 5, 6, 7, 8] rfl rfl rfl rfl rfl (by decide) rfl rfl rfl hl.1 rfl (Nat.le_of_ble_eq_true rfl) d_B_widthToBuild_122 ⟨Nat.zero_le _, Nat.zero_le _⟩ (st1 := [.int (nI (cW nt tw ka kb))]) rfl (fun H locs hP hD hS => ?_)
  have tl6 := cW_le (nt := nt) (tw := tw) o_tw (by omega) ka kb
  exact fn_iret hx hb hr hlocks hAe hK hP hD hS rfl d_B_widthToBuild_125
set_option maxHeartbeats 4000000 in
set_option maxRecDepth 100000 in
theorem c_B_widthToBuild_5 (l : Launch) (D : va_G) (ad : Nat → Nat) (cL cI : ClassId) (nv nb nt nf na lv nm : Nat) (vw vp tw ab am : Nat → Nat) (w : Nat → Int64) (hok : Bok nv nb nt nf na lv nm vw vp tw ab am) (ka kb kc : Int32) : Fn l y_B_widthToBuild (wk y_B_widthToBuild b_B_widthToBuild 5 (some .int)) rm_B_widthToBuild D cls [(cL, .long), (cI, .int)] [.ref (ad 0), .int (nI 5), .int ka, .int kb, .int kc] (bsW ad cL cI nv nb nt nf na lv nm vw vp tw ab am w) XT (some (.int (nI (pWk nv nt nf vw tw 5 ka kb kc)))) (bsW ad cL cI nv nb nt nf na lv nm vw vp tw ab am w) := by
  refine Fn.of (by decide) rfl (Nat.le_of_ble_eq_true rfl) ?_
  intro p e s m below meth c A ls hx hb hml hr hts0 hown hlocks hnm hP hK hD hS hA hAe hX hl
  have hts : ∀ w ∈ lw_ok, w.before _ s = true := fun w h => hts0 w (List.mem_cons_of_mem _ h)
  have hown : s.vm.findClass R_B = some m.cls := hown
  have hP : va_P D cls (bsW ad cL cI nv nb nt nf na lv nm vw vp tw ab am w) s.heap := hP
  have hl : lv_has ls 5 [(0, .ref (ad 0)), (1, .int (nI 5)), (2, .int ka), (3, .int kb), (4, .int kc)] := hl
  obtain ⟨o_nv, o_nb, o_nt, o_nf, o_na, o_lv, o_nm, o_vw, o_tw, o_am, o_ab⟩ := id hok
  refine lv_iload_n hx hb d_B_widthToBuild_0 rfl (lv_at hl 1 rfl) ?_
  refine lv_tableIn (tgt := 119) (off := 118) hx hb d_B_widthToBuild_1 (by decide +kernel) (by decide +kernel) (by decide +kernel) (by decide) ?_
  refine lv_aload_n hx hb d_B_widthToBuild_119 rfl (lv_at hl 0 rfl) ?_
  refine lv_iload_n hx hb d_B_widthToBuild_120 rfl (lv_at hl 2 rfl) ?_
  refine lv_iload_n hx hb d_B_widthToBuild_121 rfl (lv_at hl 3 rfl) ?_
  refine fn_V (ws' := (bsW ad cL cI nv nb nt nf na lv nm vw vp tw ab am w)) (w1 := (bsW ad cL cI nv nb nt nf na lv nm vw vp tw ab am w)) (wc := (bsW ad cL cI nv nb nt nf na lv nm vw vp tw ab am w)) (wr := []) ⟨hx, hb, hml, hown, hts⟩ (c_B_commonWidth l D ad cL cI nv nb nt nf na lv nm vw vp tw ab am w hok ka kb) ⟨callB_of 2 hts (gW wd_244) rfl rfl rfl (hts _ wd_1) (hts _ wd_241) hd_B_commonWidth ⟨Nat.le_of_ble_eq_true rfl, Nat.le_of_ble_eq_true rfl⟩, hts _ wd_243, hts _ wd_p8⟩ XT_ok (fun _ _ _ => trivial) hK hP hD hS hA 0 0 rfl rfl rfl [0, 1] [0, 1, 2, 3, 4, 5, 6, 7, 8] [] [0, 1, 2, 3, 4, 5, 6, 7, 8] rfl rfl rfl rfl rfl (by decide) rfl rfl rfl hl.1 rfl (Nat.le_of_ble_eq_true rfl) d_B_widthToBuild_122 ⟨Nat.zero_le _, Nat.zero_le _⟩ (st1 := [.int (nI (cW nt tw ka kb))]) rfl (fun H locs hP hD hS => ?_)
  have tl7 := cW_le (nt := nt) (tw := tw) o_tw (by omega) ka kb
  exact fn_iret hx hb hr hlocks hAe hK hP hD hS rfl d_B_widthToBuild_125
set_option maxHeartbeats 4000000 in
set_option maxRecDepth 100000 in
theorem c_B_widthToBuild_6 (l : Launch) (D : va_G) (ad : Nat → Nat) (cL cI : ClassId) (nv nb nt nf na lv nm : Nat) (vw vp tw ab am : Nat → Nat) (w : Nat → Int64) (hok : Bok nv nb nt nf na lv nm vw vp tw ab am) (ka kb kc : Int32) : Fn l y_B_widthToBuild (wk y_B_widthToBuild b_B_widthToBuild 5 (some .int)) rm_B_widthToBuild D cls [(cL, .long), (cI, .int)] [.ref (ad 0), .int (nI 6), .int ka, .int kb, .int kc] (bsW ad cL cI nv nb nt nf na lv nm vw vp tw ab am w) XT (some (.int (nI (pWk nv nt nf vw tw 6 ka kb kc)))) (bsW ad cL cI nv nb nt nf na lv nm vw vp tw ab am w) := by
  refine Fn.of (by decide) rfl (Nat.le_of_ble_eq_true rfl) ?_
  intro p e s m below meth c A ls hx hb hml hr hts0 hown hlocks hnm hP hK hD hS hA hAe hX hl
  have hts : ∀ w ∈ lw_ok, w.before _ s = true := fun w h => hts0 w (List.mem_cons_of_mem _ h)
  have hown : s.vm.findClass R_B = some m.cls := hown
  have hP : va_P D cls (bsW ad cL cI nv nb nt nf na lv nm vw vp tw ab am w) s.heap := hP
  have hl : lv_has ls 5 [(0, .ref (ad 0)), (1, .int (nI 6)), (2, .int ka), (3, .int kb), (4, .int kc)] := hl
  obtain ⟨o_nv, o_nb, o_nt, o_nf, o_na, o_lv, o_nm, o_vw, o_tw, o_am, o_ab⟩ := id hok
  refine lv_iload_n hx hb d_B_widthToBuild_0 rfl (lv_at hl 1 rfl) ?_
  refine lv_tableIn (tgt := 119) (off := 118) hx hb d_B_widthToBuild_1 (by decide +kernel) (by decide +kernel) (by decide +kernel) (by decide) ?_
  refine lv_aload_n hx hb d_B_widthToBuild_119 rfl (lv_at hl 0 rfl) ?_
  refine lv_iload_n hx hb d_B_widthToBuild_120 rfl (lv_at hl 2 rfl) ?_
  refine lv_iload_n hx hb d_B_widthToBuild_121 rfl (lv_at hl 3 rfl) ?_
  refine fn_V (ws' := (bsW ad cL cI nv nb nt nf na lv nm vw vp tw ab am w)) (w1 := (bsW ad cL cI nv nb nt nf na lv nm vw vp tw ab am w)) (wc := (bsW ad cL cI nv nb nt nf na lv nm vw vp tw ab am w)) (wr := []) ⟨hx, hb, hml, hown, hts⟩ (c_B_commonWidth l D ad cL cI nv nb nt nf na lv nm vw vp tw ab am w hok ka kb) ⟨callB_of 2 hts (gW wd_244) rfl rfl rfl (hts _ wd_1) (hts _ wd_241) hd_B_commonWidth ⟨Nat.le_of_ble_eq_true rfl, Nat.le_of_ble_eq_true rfl⟩, hts _ wd_243, hts _ wd_p8⟩ XT_ok (fun _ _ _ => trivial) hK hP hD hS hA 0 0 rfl rfl rfl [0, 1] [0, 1, 2, 3, 4, 5, 6, 7, 8] [] [0, 1, 2, 3, 4, 5, 6, 7, 8] rfl rfl rfl rfl rfl (by decide) rfl rfl rfl hl.1 rfl (Nat.le_of_ble_eq_true rfl) d_B_widthToBuild_122 ⟨Nat.zero_le _, Nat.zero_le _⟩ (st1 := [.int (nI (cW nt tw ka kb))]) rfl (fun H locs hP hD hS => ?_)
  have tl8 := cW_le (nt := nt) (tw := tw) o_tw (by omega) ka kb
  exact fn_iret hx hb hr hlocks hAe hK hP hD hS rfl d_B_widthToBuild_125
set_option maxHeartbeats 4000000 in
set_option maxRecDepth 100000 in
theorem c_B_widthToBuild_7 (l : Launch) (D : va_G) (ad : Nat → Nat) (cL cI : ClassId) (nv nb nt nf na lv nm : Nat) (vw vp tw ab am : Nat → Nat) (w : Nat → Int64) (hok : Bok nv nb nt nf na lv nm vw vp tw ab am) (ka kb kc : Int32) : Fn l y_B_widthToBuild (wk y_B_widthToBuild b_B_widthToBuild 5 (some .int)) rm_B_widthToBuild D cls [(cL, .long), (cI, .int)] [.ref (ad 0), .int (nI 7), .int ka, .int kb, .int kc] (bsW ad cL cI nv nb nt nf na lv nm vw vp tw ab am w) XT (some (.int (nI (pWk nv nt nf vw tw 7 ka kb kc)))) (bsW ad cL cI nv nb nt nf na lv nm vw vp tw ab am w) := by
  refine Fn.of (by decide) rfl (Nat.le_of_ble_eq_true rfl) ?_
  intro p e s m below meth c A ls hx hb hml hr hts0 hown hlocks hnm hP hK hD hS hA hAe hX hl
  have hts : ∀ w ∈ lw_ok, w.before _ s = true := fun w h => hts0 w (List.mem_cons_of_mem _ h)
  have hown : s.vm.findClass R_B = some m.cls := hown
  have hP : va_P D cls (bsW ad cL cI nv nb nt nf na lv nm vw vp tw ab am w) s.heap := hP
  have hl : lv_has ls 5 [(0, .ref (ad 0)), (1, .int (nI 7)), (2, .int ka), (3, .int kb), (4, .int kc)] := hl
  obtain ⟨o_nv, o_nb, o_nt, o_nf, o_na, o_lv, o_nm, o_vw, o_tw, o_am, o_ab⟩ := id hok
  refine lv_iload_n hx hb d_B_widthToBuild_0 rfl (lv_at hl 1 rfl) ?_
  refine lv_tableIn (tgt := 119) (off := 118) hx hb d_B_widthToBuild_1 (by decide +kernel) (by decide +kernel) (by decide +kernel) (by decide) ?_
  refine lv_aload_n hx hb d_B_widthToBuild_119 rfl (lv_at hl 0 rfl) ?_
  refine lv_iload_n hx hb d_B_widthToBuild_120 rfl (lv_at hl 2 rfl) ?_
  refine lv_iload_n hx hb d_B_widthToBuild_121 rfl (lv_at hl 3 rfl) ?_
  refine fn_V (ws' := (bsW ad cL cI nv nb nt nf na lv nm vw vp tw ab am w)) (w1 := (bsW ad cL cI nv nb nt nf na lv nm vw vp tw ab am w)) (wc := (bsW ad cL cI nv nb nt nf na lv nm vw vp tw ab am w)) (wr := []) ⟨hx, hb, hml, hown, hts⟩ (c_B_commonWidth l D ad cL cI nv nb nt nf na lv nm vw vp tw ab am w hok ka kb) ⟨callB_of 2 hts (gW wd_244) rfl rfl rfl (hts _ wd_1) (hts _ wd_241) hd_B_commonWidth ⟨Nat.le_of_ble_eq_true rfl, Nat.le_of_ble_eq_true rfl⟩, hts _ wd_243, hts _ wd_p8⟩ XT_ok (fun _ _ _ => trivial) hK hP hD hS hA 0 0 rfl rfl rfl [0, 1] [0, 1, 2, 3, 4, 5, 6, 7, 8] [] [0, 1, 2, 3, 4, 5, 6, 7, 8] rfl rfl rfl rfl rfl (by decide) rfl rfl rfl hl.1 rfl (Nat.le_of_ble_eq_true rfl) d_B_widthToBuild_122 ⟨Nat.zero_le _, Nat.zero_le _⟩ (st1 := [.int (nI (cW nt tw ka kb))]) rfl (fun H locs hP hD hS => ?_)
  have tl9 := cW_le (nt := nt) (tw := tw) o_tw (by omega) ka kb
  exact fn_iret hx hb hr hlocks hAe hK hP hD hS rfl d_B_widthToBuild_125
set_option maxHeartbeats 4000000 in
set_option maxRecDepth 100000 in
theorem c_B_widthToBuild_8 (l : Launch) (D : va_G) (ad : Nat → Nat) (cL cI : ClassId) (nv nb nt nf na lv nm : Nat) (vw vp tw ab am : Nat → Nat) (w : Nat → Int64) (hok : Bok nv nb nt nf na lv nm vw vp tw ab am) (ka kb kc : Int32) : Fn l y_B_widthToBuild (wk y_B_widthToBuild b_B_widthToBuild 5 (some .int)) rm_B_widthToBuild D cls [(cL, .long), (cI, .int)] [.ref (ad 0), .int (nI 8), .int ka, .int kb, .int kc] (bsW ad cL cI nv nb nt nf na lv nm vw vp tw ab am w) XT (some (.int (nI (pWk nv nt nf vw tw 8 ka kb kc)))) (bsW ad cL cI nv nb nt nf na lv nm vw vp tw ab am w) := by
  refine Fn.of (by decide) rfl (Nat.le_of_ble_eq_true rfl) ?_
  intro p e s m below meth c A ls hx hb hml hr hts0 hown hlocks hnm hP hK hD hS hA hAe hX hl
  have hts : ∀ w ∈ lw_ok, w.before _ s = true := fun w h => hts0 w (List.mem_cons_of_mem _ h)
  have hown : s.vm.findClass R_B = some m.cls := hown
  have hP : va_P D cls (bsW ad cL cI nv nb nt nf na lv nm vw vp tw ab am w) s.heap := hP
  have hl : lv_has ls 5 [(0, .ref (ad 0)), (1, .int (nI 8)), (2, .int ka), (3, .int kb), (4, .int kc)] := hl
  obtain ⟨o_nv, o_nb, o_nt, o_nf, o_na, o_lv, o_nm, o_vw, o_tw, o_am, o_ab⟩ := id hok
  refine lv_iload_n hx hb d_B_widthToBuild_0 rfl (lv_at hl 1 rfl) ?_
  refine lv_tableIn (tgt := 126) (off := 125) hx hb d_B_widthToBuild_1 (by decide +kernel) (by decide +kernel) (by decide +kernel) (by decide) ?_
  refine lv_aload_n hx hb d_B_widthToBuild_126 rfl (lv_at hl 0 rfl) ?_
  refine lv_iload_n hx hb d_B_widthToBuild_127 rfl (lv_at hl 2 rfl) ?_
  refine fn_V (ws' := (bsW ad cL cI nv nb nt nf na lv nm vw vp tw ab am w)) (w1 := (bsW ad cL cI nv nb nt nf na lv nm vw vp tw ab am w)) (wc := (bsW ad cL cI nv nb nt nf na lv nm vw vp tw ab am w)) (wr := []) ⟨hx, hb, hml, hown, hts⟩ (c_B_widthOrNone l D ad cL cI nv nb nt nf na lv nm vw vp tw ab am w hok ka) ⟨callB_of 1 hts (gW wd_248) rfl rfl rfl (hts _ wd_1) (hts _ wd_245) hd_B_widthOrNone ⟨Nat.le_of_ble_eq_true rfl, Nat.le_of_ble_eq_true rfl⟩, hts _ wd_247, hts _ wd_p9⟩ XT_ok (fun _ _ _ => trivial) hK hP hD hS hA 0 0 rfl rfl rfl [0, 1] [0, 1, 2, 3, 4, 5, 6, 7, 8] [] [0, 1, 2, 3, 4, 5, 6, 7, 8] rfl rfl rfl rfl rfl (by decide) rfl rfl rfl hl.1 rfl (Nat.le_of_ble_eq_true rfl) d_B_widthToBuild_128 ⟨Nat.zero_le _, Nat.zero_le _⟩ (st1 := [.int (nI (tW nt tw ka))]) rfl (fun H locs hP hD hS => ?_)
  have tl10 := tW_le (nt := nt) (tw := tw) o_tw (by omega) ka
  exact fn_iret hx hb hr hlocks hAe hK hP hD hS rfl d_B_widthToBuild_131
set_option maxHeartbeats 4000000 in
set_option maxRecDepth 100000 in
theorem c_B_widthToBuild_9 (l : Launch) (D : va_G) (ad : Nat → Nat) (cL cI : ClassId) (nv nb nt nf na lv nm : Nat) (vw vp tw ab am : Nat → Nat) (w : Nat → Int64) (hok : Bok nv nb nt nf na lv nm vw vp tw ab am) (ka kb kc : Int32) : Fn l y_B_widthToBuild (wk y_B_widthToBuild b_B_widthToBuild 5 (some .int)) rm_B_widthToBuild D cls [(cL, .long), (cI, .int)] [.ref (ad 0), .int (nI 9), .int ka, .int kb, .int kc] (bsW ad cL cI nv nb nt nf na lv nm vw vp tw ab am w) XT (some (.int (nI (pWk nv nt nf vw tw 9 ka kb kc)))) (bsW ad cL cI nv nb nt nf na lv nm vw vp tw ab am w) := by
  refine Fn.of (by decide) rfl (Nat.le_of_ble_eq_true rfl) ?_
  intro p e s m below meth c A ls hx hb hml hr hts0 hown hlocks hnm hP hK hD hS hA hAe hX hl
  have hts : ∀ w ∈ lw_ok, w.before _ s = true := fun w h => hts0 w (List.mem_cons_of_mem _ h)
  have hown : s.vm.findClass R_B = some m.cls := hown
  have hP : va_P D cls (bsW ad cL cI nv nb nt nf na lv nm vw vp tw ab am w) s.heap := hP
  have hl : lv_has ls 5 [(0, .ref (ad 0)), (1, .int (nI 9)), (2, .int ka), (3, .int kb), (4, .int kc)] := hl
  obtain ⟨o_nv, o_nb, o_nt, o_nf, o_na, o_lv, o_nm, o_vw, o_tw, o_am, o_ab⟩ := id hok
  refine lv_iload_n hx hb d_B_widthToBuild_0 rfl (lv_at hl 1 rfl) ?_
  refine lv_tableIn (tgt := 132) (off := 131) hx hb d_B_widthToBuild_1 (by decide +kernel) (by decide +kernel) (by decide +kernel) (by decide) ?_
  refine lv_iload_n hx hb d_B_widthToBuild_132 rfl (lv_at hl 3 rfl) ?_
  refine z_if_lt (tgt := 149) hx hb rfl d_B_widthToBuild_133 (by decide) (fun c_133 => ?_) (fun c_133 => ?_)
  · refine lv_iconst (v := nI 0) hx hb d_B_widthToBuild_149 (by decide) ?_
    exact fn_iret hx hb hr hlocks hAe hK hP hD hS (congrArg nI (if_neg (by omega)).symm) d_B_widthToBuild_150
  · refine lv_iload_n hx hb d_B_widthToBuild_136 rfl (lv_at hl 3 rfl) ?_
    refine lv_iconst (v := nI 4) hx hb d_B_widthToBuild_137 (by decide) ?_
    refine z_icmp_gt (tgt := 149) hx hb rfl (nI_toInt (by omega)) d_B_widthToBuild_138 (by decide) (fun c_138 => ?_) (fun c_138 => ?_)
    · refine lv_iconst (v := nI 0) hx hb d_B_widthToBuild_149 (by decide) ?_
      exact fn_iret hx hb hr hlocks hAe hK hP hD hS (congrArg nI (if_neg (by omega)).symm) d_B_widthToBuild_150
    · refine lv_aload_n hx hb d_B_widthToBuild_141 rfl (lv_at hl 0 rfl) ?_
      refine lv_iload_n hx hb d_B_widthToBuild_142 rfl (lv_at hl 2 rfl) ?_
      refine fn_V (ws' := (bsW ad cL cI nv nb nt nf na lv nm vw vp tw ab am w)) (w1 := (bsW ad cL cI nv nb nt nf na lv nm vw vp tw ab am w)) (wc := (bsW ad cL cI nv nb nt nf na lv nm vw vp tw ab am w)) (wr := []) ⟨hx, hb, hml, hown, hts⟩ (c_B_widthOrNone l D ad cL cI nv nb nt nf na lv nm vw vp tw ab am w hok ka) ⟨callB_of 1 hts (gW wd_248) rfl rfl rfl (hts _ wd_1) (hts _ wd_245) hd_B_widthOrNone ⟨Nat.le_of_ble_eq_true rfl, Nat.le_of_ble_eq_true rfl⟩, hts _ wd_247, hts _ wd_p9⟩ XT_ok (fun _ _ _ => trivial) hK hP hD hS hA 0 0 rfl rfl rfl [0, 1] [0, 1, 2, 3, 4, 5, 6, 7, 8] [] [0, 1, 2, 3, 4, 5, 6, 7, 8] rfl rfl rfl rfl rfl (by decide) rfl rfl rfl hl.1 rfl (Nat.le_of_ble_eq_true rfl) d_B_widthToBuild_143 ⟨Nat.zero_le _, Nat.zero_le _⟩ (st1 := [.int (nI (tW nt tw ka))]) rfl (fun H locs hP hD hS => ?_)
      have tl11 := tW_le (nt := nt) (tw := tw) o_tw (by omega) ka
      refine lv_goto (tgt := 150) hx hb d_B_widthToBuild_146 (by decide) ?_
      exact fn_iret hx hb hr hlocks hAe hK hP hD hS (congrArg nI (if_pos ⟨by omega, by omega⟩).symm) d_B_widthToBuild_150
set_option maxHeartbeats 4000000 in
set_option maxRecDepth 100000 in
theorem c_B_widthToBuild_10 (l : Launch) (D : va_G) (ad : Nat → Nat) (cL cI : ClassId) (nv nb nt nf na lv nm : Nat) (vw vp tw ab am : Nat → Nat) (w : Nat → Int64) (hok : Bok nv nb nt nf na lv nm vw vp tw ab am) (ka kb kc : Int32) : Fn l y_B_widthToBuild (wk y_B_widthToBuild b_B_widthToBuild 5 (some .int)) rm_B_widthToBuild D cls [(cL, .long), (cI, .int)] [.ref (ad 0), .int (nI 10), .int ka, .int kb, .int kc] (bsW ad cL cI nv nb nt nf na lv nm vw vp tw ab am w) XT (some (.int (nI (pWk nv nt nf vw tw 10 ka kb kc)))) (bsW ad cL cI nv nb nt nf na lv nm vw vp tw ab am w) := by
  refine Fn.of (by decide) rfl (Nat.le_of_ble_eq_true rfl) ?_
  intro p e s m below meth c A ls hx hb hml hr hts0 hown hlocks hnm hP hK hD hS hA hAe hX hl
  have hts : ∀ w ∈ lw_ok, w.before _ s = true := fun w h => hts0 w (List.mem_cons_of_mem _ h)
  have hown : s.vm.findClass R_B = some m.cls := hown
  have hP : va_P D cls (bsW ad cL cI nv nb nt nf na lv nm vw vp tw ab am w) s.heap := hP
  have hl : lv_has ls 5 [(0, .ref (ad 0)), (1, .int (nI 10)), (2, .int ka), (3, .int kb), (4, .int kc)] := hl
  obtain ⟨o_nv, o_nb, o_nt, o_nf, o_na, o_lv, o_nm, o_vw, o_tw, o_am, o_ab⟩ := id hok
  refine lv_iload_n hx hb d_B_widthToBuild_0 rfl (lv_at hl 1 rfl) ?_
  refine lv_tableIn (tgt := 132) (off := 131) hx hb d_B_widthToBuild_1 (by decide +kernel) (by decide +kernel) (by decide +kernel) (by decide) ?_
  refine lv_iload_n hx hb d_B_widthToBuild_132 rfl (lv_at hl 3 rfl) ?_
  refine z_if_lt (tgt := 149) hx hb rfl d_B_widthToBuild_133 (by decide) (fun c_133 => ?_) (fun c_133 => ?_)
  · refine lv_iconst (v := nI 0) hx hb d_B_widthToBuild_149 (by decide) ?_
    exact fn_iret hx hb hr hlocks hAe hK hP hD hS (congrArg nI (if_neg (by omega)).symm) d_B_widthToBuild_150
  · refine lv_iload_n hx hb d_B_widthToBuild_136 rfl (lv_at hl 3 rfl) ?_
    refine lv_iconst (v := nI 4) hx hb d_B_widthToBuild_137 (by decide) ?_
    refine z_icmp_gt (tgt := 149) hx hb rfl (nI_toInt (by omega)) d_B_widthToBuild_138 (by decide) (fun c_138 => ?_) (fun c_138 => ?_)
    · refine lv_iconst (v := nI 0) hx hb d_B_widthToBuild_149 (by decide) ?_
      exact fn_iret hx hb hr hlocks hAe hK hP hD hS (congrArg nI (if_neg (by omega)).symm) d_B_widthToBuild_150
    · refine lv_aload_n hx hb d_B_widthToBuild_141 rfl (lv_at hl 0 rfl) ?_
      refine lv_iload_n hx hb d_B_widthToBuild_142 rfl (lv_at hl 2 rfl) ?_
      refine fn_V (ws' := (bsW ad cL cI nv nb nt nf na lv nm vw vp tw ab am w)) (w1 := (bsW ad cL cI nv nb nt nf na lv nm vw vp tw ab am w)) (wc := (bsW ad cL cI nv nb nt nf na lv nm vw vp tw ab am w)) (wr := []) ⟨hx, hb, hml, hown, hts⟩ (c_B_widthOrNone l D ad cL cI nv nb nt nf na lv nm vw vp tw ab am w hok ka) ⟨callB_of 1 hts (gW wd_248) rfl rfl rfl (hts _ wd_1) (hts _ wd_245) hd_B_widthOrNone ⟨Nat.le_of_ble_eq_true rfl, Nat.le_of_ble_eq_true rfl⟩, hts _ wd_247, hts _ wd_p9⟩ XT_ok (fun _ _ _ => trivial) hK hP hD hS hA 0 0 rfl rfl rfl [0, 1] [0, 1, 2, 3, 4, 5, 6, 7, 8] [] [0, 1, 2, 3, 4, 5, 6, 7, 8] rfl rfl rfl rfl rfl (by decide) rfl rfl rfl hl.1 rfl (Nat.le_of_ble_eq_true rfl) d_B_widthToBuild_143 ⟨Nat.zero_le _, Nat.zero_le _⟩ (st1 := [.int (nI (tW nt tw ka))]) rfl (fun H locs hP hD hS => ?_)
      have tl12 := tW_le (nt := nt) (tw := tw) o_tw (by omega) ka
      refine lv_goto (tgt := 150) hx hb d_B_widthToBuild_146 (by decide) ?_
      exact fn_iret hx hb hr hlocks hAe hK hP hD hS (congrArg nI (if_pos ⟨by omega, by omega⟩).symm) d_B_widthToBuild_150
set_option maxHeartbeats 4000000 in
set_option maxRecDepth 100000 in
theorem c_B_widthToBuild_11 (l : Launch) (D : va_G) (ad : Nat → Nat) (cL cI : ClassId) (nv nb nt nf na lv nm : Nat) (vw vp tw ab am : Nat → Nat) (w : Nat → Int64) (hok : Bok nv nb nt nf na lv nm vw vp tw ab am) (ka kb kc : Int32) : Fn l y_B_widthToBuild (wk y_B_widthToBuild b_B_widthToBuild 5 (some .int)) rm_B_widthToBuild D cls [(cL, .long), (cI, .int)] [.ref (ad 0), .int (nI 11), .int ka, .int kb, .int kc] (bsW ad cL cI nv nb nt nf na lv nm vw vp tw ab am w) XT (some (.int (nI (pWk nv nt nf vw tw 11 ka kb kc)))) (bsW ad cL cI nv nb nt nf na lv nm vw vp tw ab am w) := by
  refine Fn.of (by decide) rfl (Nat.le_of_ble_eq_true rfl) ?_
  intro p e s m below meth c A ls hx hb hml hr hts0 hown hlocks hnm hP hK hD hS hA hAe hX hl
  have hts : ∀ w ∈ lw_ok, w.before _ s = true := fun w h => hts0 w (List.mem_cons_of_mem _ h)
  have hown : s.vm.findClass R_B = some m.cls := hown
  have hP : va_P D cls (bsW ad cL cI nv nb nt nf na lv nm vw vp tw ab am w) s.heap := hP
  have hl : lv_has ls 5 [(0, .ref (ad 0)), (1, .int (nI 11)), (2, .int ka), (3, .int kb), (4, .int kc)] := hl
  obtain ⟨o_nv, o_nb, o_nt, o_nf, o_na, o_lv, o_nm, o_vw, o_tw, o_am, o_ab⟩ := id hok
  refine lv_iload_n hx hb d_B_widthToBuild_0 rfl (lv_at hl 1 rfl) ?_
  refine lv_tableIn (tgt := 132) (off := 131) hx hb d_B_widthToBuild_1 (by decide +kernel) (by decide +kernel) (by decide +kernel) (by decide) ?_
  refine lv_iload_n hx hb d_B_widthToBuild_132 rfl (lv_at hl 3 rfl) ?_
  refine z_if_lt (tgt := 149) hx hb rfl d_B_widthToBuild_133 (by decide) (fun c_133 => ?_) (fun c_133 => ?_)
  · refine lv_iconst (v := nI 0) hx hb d_B_widthToBuild_149 (by decide) ?_
    exact fn_iret hx hb hr hlocks hAe hK hP hD hS (congrArg nI (if_neg (by omega)).symm) d_B_widthToBuild_150
  · refine lv_iload_n hx hb d_B_widthToBuild_136 rfl (lv_at hl 3 rfl) ?_
    refine lv_iconst (v := nI 4) hx hb d_B_widthToBuild_137 (by decide) ?_
    refine z_icmp_gt (tgt := 149) hx hb rfl (nI_toInt (by omega)) d_B_widthToBuild_138 (by decide) (fun c_138 => ?_) (fun c_138 => ?_)
    · refine lv_iconst (v := nI 0) hx hb d_B_widthToBuild_149 (by decide) ?_
      exact fn_iret hx hb hr hlocks hAe hK hP hD hS (congrArg nI (if_neg (by omega)).symm) d_B_widthToBuild_150
    · refine lv_aload_n hx hb d_B_widthToBuild_141 rfl (lv_at hl 0 rfl) ?_
      refine lv_iload_n hx hb d_B_widthToBuild_142 rfl (lv_at hl 2 rfl) ?_
      refine fn_V (ws' := (bsW ad cL cI nv nb nt nf na lv nm vw vp tw ab am w)) (w1 := (bsW ad cL cI nv nb nt nf na lv nm vw vp tw ab am w)) (wc := (bsW ad cL cI nv nb nt nf na lv nm vw vp tw ab am w)) (wr := []) ⟨hx, hb, hml, hown, hts⟩ (c_B_widthOrNone l D ad cL cI nv nb nt nf na lv nm vw vp tw ab am w hok ka) ⟨callB_of 1 hts (gW wd_248) rfl rfl rfl (hts _ wd_1) (hts _ wd_245) hd_B_widthOrNone ⟨Nat.le_of_ble_eq_true rfl, Nat.le_of_ble_eq_true rfl⟩, hts _ wd_247, hts _ wd_p9⟩ XT_ok (fun _ _ _ => trivial) hK hP hD hS hA 0 0 rfl rfl rfl [0, 1] [0, 1, 2, 3, 4, 5, 6, 7, 8] [] [0, 1, 2, 3, 4, 5, 6, 7, 8] rfl rfl rfl rfl rfl (by decide) rfl rfl rfl hl.1 rfl (Nat.le_of_ble_eq_true rfl) d_B_widthToBuild_143 ⟨Nat.zero_le _, Nat.zero_le _⟩ (st1 := [.int (nI (tW nt tw ka))]) rfl (fun H locs hP hD hS => ?_)
      have tl13 := tW_le (nt := nt) (tw := tw) o_tw (by omega) ka
      refine lv_goto (tgt := 150) hx hb d_B_widthToBuild_146 (by decide) ?_
      exact fn_iret hx hb hr hlocks hAe hK hP hD hS (congrArg nI (if_pos ⟨by omega, by omega⟩).symm) d_B_widthToBuild_150
set_option maxHeartbeats 4000000 in
set_option maxRecDepth 100000 in
theorem c_B_widthToBuild_12 (l : Launch) (D : va_G) (ad : Nat → Nat) (cL cI : ClassId) (nv nb nt nf na lv nm : Nat) (vw vp tw ab am : Nat → Nat) (w : Nat → Int64) (hok : Bok nv nb nt nf na lv nm vw vp tw ab am) (ka kb kc : Int32) : Fn l y_B_widthToBuild (wk y_B_widthToBuild b_B_widthToBuild 5 (some .int)) rm_B_widthToBuild D cls [(cL, .long), (cI, .int)] [.ref (ad 0), .int (nI 12), .int ka, .int kb, .int kc] (bsW ad cL cI nv nb nt nf na lv nm vw vp tw ab am w) XT (some (.int (nI (pWk nv nt nf vw tw 12 ka kb kc)))) (bsW ad cL cI nv nb nt nf na lv nm vw vp tw ab am w) := by
  refine Fn.of (by decide) rfl (Nat.le_of_ble_eq_true rfl) ?_
  intro p e s m below meth c A ls hx hb hml hr hts0 hown hlocks hnm hP hK hD hS hA hAe hX hl
  have hts : ∀ w ∈ lw_ok, w.before _ s = true := fun w h => hts0 w (List.mem_cons_of_mem _ h)
  have hown : s.vm.findClass R_B = some m.cls := hown
  have hP : va_P D cls (bsW ad cL cI nv nb nt nf na lv nm vw vp tw ab am w) s.heap := hP
  have hl : lv_has ls 5 [(0, .ref (ad 0)), (1, .int (nI 12)), (2, .int ka), (3, .int kb), (4, .int kc)] := hl
  obtain ⟨o_nv, o_nb, o_nt, o_nf, o_na, o_lv, o_nm, o_vw, o_tw, o_am, o_ab⟩ := id hok
  refine lv_iload_n hx hb d_B_widthToBuild_0 rfl (lv_at hl 1 rfl) ?_
  refine lv_tableIn (tgt := 151) (off := 150) hx hb d_B_widthToBuild_1 (by decide +kernel) (by decide +kernel) (by decide +kernel) (by decide) ?_
  refine lv_aload_n hx hb d_B_widthToBuild_151 rfl (lv_at hl 0 rfl) ?_
  refine lv_iload_n hx hb d_B_widthToBuild_152 rfl (lv_at hl 2 rfl) ?_
  refine fn_V (ws' := (bsW ad cL cI nv nb nt nf na lv nm vw vp tw ab am w)) (w1 := (bsW ad cL cI nv nb nt nf na lv nm vw vp tw ab am w)) (wc := (bsW ad cL cI nv nb nt nf na lv nm vw vp tw ab am w)) (wr := []) ⟨hx, hb, hml, hown, hts⟩ (c_B_hasFormula l D ad cL cI nv nb nt nf na lv nm vw vp tw ab am w hok ka) ⟨callB_of 1 hts (gW wd_256) rfl rfl rfl (hts _ wd_1) (hts _ wd_253) hd_B_hasFormula ⟨Nat.le_of_ble_eq_true rfl, Nat.le_of_ble_eq_true rfl⟩, hts _ wd_255, hts _ wd_p11⟩ XT_ok (fun _ _ _ => trivial) hK hP hD hS hA 0 0 rfl rfl rfl [0, 1] [0, 1, 2, 3, 4, 5, 6, 7, 8] [] [0, 1, 2, 3, 4, 5, 6, 7, 8] rfl rfl rfl rfl rfl (by decide) rfl rfl rfl hl.1 rfl (Nat.le_of_ble_eq_true rfl) d_B_widthToBuild_153 ⟨Nat.zero_le _, Nat.zero_le _⟩ (st1 := [.int (bI (hasB ka nf))]) rfl (fun H locs hP hD hS => ?_)
  refine b_if_eq (tgt := 169) hx hb d_B_widthToBuild_156 (by decide) (fun c_156 => ?_) (fun c_156 => ?_)
  · refine lv_iconst (v := nI 0) hx hb d_B_widthToBuild_169 (by decide) ?_
    exact fn_iret hx hb hr hlocks hAe hK hP hD hS (congrArg nI (if_neg (by rw [c_156]; decide)).symm) d_B_widthToBuild_170
  · refine lv_aload_n hx hb d_B_widthToBuild_159 rfl (lv_at hl 0 rfl) ?_
    refine lv_iload_n hx hb d_B_widthToBuild_160 rfl (lv_at hl 3 rfl) ?_
    refine lv_iload hx hb d_B_widthToBuild_161 (lv_at hl 4 rfl) ?_
    refine fn_V (ws' := (bsW ad cL cI nv nb nt nf na lv nm vw vp tw ab am w)) (w1 := (bsW ad cL cI nv nb nt nf na lv nm vw vp tw ab am w)) (wc := (bsW ad cL cI nv nb nt nf na lv nm vw vp tw ab am w)) (wr := []) ⟨hx, hb, hml, hown, hts⟩ (c_B_commonWidth l D ad cL cI nv nb nt nf na lv nm vw vp tw ab am w hok kb kc) ⟨callB_of 2 hts (gW wd_244) rfl rfl rfl (hts _ wd_1) (hts _ wd_241) hd_B_commonWidth ⟨Nat.le_of_ble_eq_true rfl, Nat.le_of_ble_eq_true rfl⟩, hts _ wd_243, hts _ wd_p8⟩ XT_ok (fun _ _ _ => trivial) hK hP hD hS hA 0 0 rfl rfl rfl [0, 1] [0, 1, 2, 3, 4, 5, 6, 7, 8] [] [0, 1, 2, 3, 4, 5, 6, 7, 8] rfl rfl rfl rfl rfl (by decide) rfl rfl rfl hl.1 rfl (Nat.le_of_ble_eq_true rfl) d_B_widthToBuild_163 ⟨Nat.zero_le _, Nat.zero_le _⟩ (st1 := [.int (nI (cW nt tw kb kc))]) rfl (fun H locs hP hD hS => ?_)
    have tl14 := cW_le (nt := nt) (tw := tw) o_tw (by omega) kb kc
    refine lv_goto (tgt := 170) hx hb d_B_widthToBuild_166 (by decide) ?_
    exact fn_iret hx hb hr hlocks hAe hK hP hD hS (congrArg nI (if_pos c_156).symm) d_B_widthToBuild_170
set_option maxHeartbeats 4000000 in
set_option maxRecDepth 100000 in
theorem c_B_widthToBuild_13 (l : Launch) (D : va_G) (ad : Nat → Nat) (cL cI : ClassId) (nv nb nt nf na lv nm : Nat) (vw vp tw ab am : Nat → Nat) (w : Nat → Int64) (hok : Bok nv nb nt nf na lv nm vw vp tw ab am) (ka kb kc : Int32) : Fn l y_B_widthToBuild (wk y_B_widthToBuild b_B_widthToBuild 5 (some .int)) rm_B_widthToBuild D cls [(cL, .long), (cI, .int)] [.ref (ad 0), .int (nI 13), .int ka, .int kb, .int kc] (bsW ad cL cI nv nb nt nf na lv nm vw vp tw ab am w) XT (some (.int (nI (pWk nv nt nf vw tw 13 ka kb kc)))) (bsW ad cL cI nv nb nt nf na lv nm vw vp tw ab am w) := by
  refine Fn.of (by decide) rfl (Nat.le_of_ble_eq_true rfl) ?_
  intro p e s m below meth c A ls hx hb hml hr hts0 hown hlocks hnm hP hK hD hS hA hAe hX hl
  have hts : ∀ w ∈ lw_ok, w.before _ s = true := fun w h => hts0 w (List.mem_cons_of_mem _ h)
  have hown : s.vm.findClass R_B = some m.cls := hown
  have hP : va_P D cls (bsW ad cL cI nv nb nt nf na lv nm vw vp tw ab am w) s.heap := hP
  have hl : lv_has ls 5 [(0, .ref (ad 0)), (1, .int (nI 13)), (2, .int ka), (3, .int kb), (4, .int kc)] := hl
  obtain ⟨o_nv, o_nb, o_nt, o_nf, o_na, o_lv, o_nm, o_vw, o_tw, o_am, o_ab⟩ := id hok
  refine lv_iload_n hx hb d_B_widthToBuild_0 rfl (lv_at hl 1 rfl) ?_
  refine lv_tableIn (tgt := 171) (off := 170) hx hb d_B_widthToBuild_1 (by decide +kernel) (by decide +kernel) (by decide +kernel) (by decide) ?_
  refine lv_aload_n hx hb d_B_widthToBuild_171 rfl (lv_at hl 0 rfl) ?_
  refine lv_iload_n hx hb d_B_widthToBuild_172 rfl (lv_at hl 2 rfl) ?_
  refine lv_iload_n hx hb d_B_widthToBuild_173 rfl (lv_at hl 3 rfl) ?_
  refine fn_V (ws' := (bsW ad cL cI nv nb nt nf na lv nm vw vp tw ab am w)) (w1 := (bsW ad cL cI nv nb nt nf na lv nm vw vp tw ab am w)) (wc := (bsW ad cL cI nv nb nt nf na lv nm vw vp tw ab am w)) (wr := []) ⟨hx, hb, hml, hown, hts⟩ (c_B_joinedWidth l D ad cL cI nv nb nt nf na lv nm vw vp tw ab am w hok ka kb) ⟨callB_of 2 hts (gW wd_260) rfl rfl rfl (hts _ wd_1) (hts _ wd_257) hd_B_joinedWidth ⟨Nat.le_of_ble_eq_true rfl, Nat.le_of_ble_eq_true rfl⟩, hts _ wd_259, hts _ wd_p12⟩ XT_ok (fun _ _ _ => trivial) hK hP hD hS hA 0 0 rfl rfl rfl [0, 1] [0, 1, 2, 3, 4, 5, 6, 7, 8] [] [0, 1, 2, 3, 4, 5, 6, 7, 8] rfl rfl rfl rfl rfl (by decide) rfl rfl rfl hl.1 rfl (Nat.le_of_ble_eq_true rfl) d_B_widthToBuild_174 ⟨Nat.zero_le _, Nat.zero_le _⟩ (st1 := [.int (nI (jW nt tw ka kb))]) rfl (fun H locs hP hD hS => ?_)
  exact fn_iret hx hb hr hlocks hAe hK hP hD hS rfl d_B_widthToBuild_177
set_option maxHeartbeats 4000000 in
set_option maxRecDepth 100000 in
theorem c_B_widthToBuild_14 (l : Launch) (D : va_G) (ad : Nat → Nat) (cL cI : ClassId) (nv nb nt nf na lv nm : Nat) (vw vp tw ab am : Nat → Nat) (w : Nat → Int64) (hok : Bok nv nb nt nf na lv nm vw vp tw ab am) (ka kb kc : Int32) : Fn l y_B_widthToBuild (wk y_B_widthToBuild b_B_widthToBuild 5 (some .int)) rm_B_widthToBuild D cls [(cL, .long), (cI, .int)] [.ref (ad 0), .int (nI 14), .int ka, .int kb, .int kc] (bsW ad cL cI nv nb nt nf na lv nm vw vp tw ab am w) XT (some (.int (nI (pWk nv nt nf vw tw 14 ka kb kc)))) (bsW ad cL cI nv nb nt nf na lv nm vw vp tw ab am w) := by
  refine Fn.of (by decide) rfl (Nat.le_of_ble_eq_true rfl) ?_
  intro p e s m below meth c A ls hx hb hml hr hts0 hown hlocks hnm hP hK hD hS hA hAe hX hl
  have hts : ∀ w ∈ lw_ok, w.before _ s = true := fun w h => hts0 w (List.mem_cons_of_mem _ h)
  have hown : s.vm.findClass R_B = some m.cls := hown
  have hP : va_P D cls (bsW ad cL cI nv nb nt nf na lv nm vw vp tw ab am w) s.heap := hP
  have hl : lv_has ls 5 [(0, .ref (ad 0)), (1, .int (nI 14)), (2, .int ka), (3, .int kb), (4, .int kc)] := hl
  obtain ⟨o_nv, o_nb, o_nt, o_nf, o_na, o_lv, o_nm, o_vw, o_tw, o_am, o_ab⟩ := id hok
  refine lv_iload_n hx hb d_B_widthToBuild_0 rfl (lv_at hl 1 rfl) ?_
  refine lv_tableIn (tgt := 178) (off := 177) hx hb d_B_widthToBuild_1 (by decide +kernel) (by decide +kernel) (by decide +kernel) (by decide) ?_
  refine lv_iload_n hx hb d_B_widthToBuild_178 rfl (lv_at hl 3 rfl) ?_
  refine z_if_lt (tgt := 207) hx hb rfl d_B_widthToBuild_179 (by decide) (fun c_179 => ?_) (fun c_179 => ?_)
  · refine lv_iconst (v := nI 0) hx hb d_B_widthToBuild_207 (by decide) ?_
    exact fn_iret hx hb hr hlocks hAe hK hP hD hS (congrArg nI (if_neg (by omega)).symm) d_B_widthToBuild_208
  · refine lv_iload_n hx hb d_B_widthToBuild_182 rfl (lv_at hl 3 rfl) ?_
    refine lv_iload hx hb d_B_widthToBuild_183 (lv_at hl 4 rfl) ?_
    refine z_icmp_gt (tgt := 207) hx hb rfl rfl d_B_widthToBuild_185 (by decide) (fun c_185 => ?_) (fun c_185 => ?_)
    · refine lv_iconst (v := nI 0) hx hb d_B_widthToBuild_207 (by decide) ?_
      exact fn_iret hx hb hr hlocks hAe hK hP hD hS (congrArg nI (if_neg (by omega)).symm) d_B_widthToBuild_208
    · refine lv_iload hx hb d_B_widthToBuild_188 (lv_at hl 4 rfl) ?_
      refine lv_aload_n hx hb d_B_widthToBuild_190 rfl (lv_at hl 0 rfl) ?_
      refine lv_iload_n hx hb d_B_widthToBuild_191 rfl (lv_at hl 2 rfl) ?_
      refine fn_V (ws' := (bsW ad cL cI nv nb nt nf na lv nm vw vp tw ab am w)) (w1 := (bsW ad cL cI nv nb nt nf na lv nm vw vp tw ab am w)) (wc := (bsW ad cL cI nv nb nt nf na lv nm vw vp tw ab am w)) (wr := []) ⟨hx, hb, hml, hown, hts⟩ (c_B_widthOrNone l D ad cL cI nv nb nt nf na lv nm vw vp tw ab am w hok ka) ⟨callB_of 1 hts (gW wd_248) rfl rfl rfl (hts _ wd_1) (hts _ wd_245) hd_B_widthOrNone ⟨Nat.le_of_ble_eq_true rfl, Nat.le_of_ble_eq_true rfl⟩, hts _ wd_247, hts _ wd_p9⟩ XT_ok (fun _ _ _ => trivial) hK hP hD hS hA 0 0 rfl rfl rfl [0, 1] [0, 1, 2, 3, 4, 5, 6, 7, 8] [] [0, 1, 2, 3, 4, 5, 6, 7, 8] rfl rfl rfl rfl rfl (by decide) rfl rfl rfl hl.1 rfl (Nat.le_of_ble_eq_true rfl) d_B_widthToBuild_192 ⟨Nat.zero_le _, Nat.zero_le _⟩ (st1 := [.int (nI (tW nt tw ka)), .int kc]) rfl (fun H locs hP hD hS => ?_)
      have tl15 := tW_le (nt := nt) (tw := tw) o_tw (by omega) ka
      refine z_icmp_ge (tgt := 207) hx hb rfl (nI_toInt (by omega)) d_B_widthToBuild_195 (by decide) (fun c_195 => ?_) (fun c_195 => ?_)
      · refine lv_iconst (v := nI 0) hx hb d_B_widthToBuild_207 (by decide) ?_
        exact fn_iret hx hb hr hlocks hAe hK hP hD hS (congrArg nI (if_neg (by omega)).symm) d_B_widthToBuild_208
      · obtain ⟨q, hq, rfl⟩ := z_nat (x := kc) (n := 4) (by omega) (by omega)
        have eq := nI_toInt (n := q) (by omega)
        obtain ⟨j, hj, rfl⟩ := z_nat (x := kb) (n := 4) (by omega) (by omega)
        have ej := nI_toInt (n := j) (by omega)
        refine lv_iload hx hb d_B_widthToBuild_198 (lv_at hl 4 rfl) ?_
        refine lv_iload_n hx hb d_B_widthToBuild_200 rfl (lv_at hl 3 rfl) ?_
        refine n_sub hx hb (by omega) d_B_widthToBuild_201 ?_
        refine lv_iconst (v := nI 1) hx hb d_B_widthToBuild_202 (by decide) ?_
        refine n_add hx hb d_B_widthToBuild_203 ?_
        refine lv_goto (tgt := 208) hx hb d_B_widthToBuild_204 (by decide) ?_
        exact fn_iret hx hb hr hlocks hAe hK hP hD hS (congrArg nI ((if_pos ⟨by omega, by omega, by omega⟩).trans (by omega)).symm) d_B_widthToBuild_208
set_option maxHeartbeats 4000000 in
set_option maxRecDepth 100000 in
theorem c_B_widthToBuild_out (l : Launch) (D : va_G) (ad : Nat → Nat) (cL cI : ClassId) (nv nb nt nf na lv nm : Nat) (vw vp tw ab am : Nat → Nat) (w : Nat → Int64) (hok : Bok nv nb nt nf na lv nm vw vp tw ab am) (kd ka kb kc : Int32) (hk : kd.toInt < 0 ∨ 14 < kd.toInt) : Fn l y_B_widthToBuild (wk y_B_widthToBuild b_B_widthToBuild 5 (some .int)) rm_B_widthToBuild D cls [(cL, .long), (cI, .int)] [.ref (ad 0), .int kd, .int ka, .int kb, .int kc] (bsW ad cL cI nv nb nt nf na lv nm vw vp tw ab am w) XT (some (.int (nI 0))) (bsW ad cL cI nv nb nt nf na lv nm vw vp tw ab am w) := by
  refine Fn.of (by decide) rfl (Nat.le_of_ble_eq_true rfl) ?_
  intro p e s m below meth c A ls hx hb hml hr hts0 hown hlocks hnm hP hK hD hS hA hAe hX hl
  have hts : ∀ w ∈ lw_ok, w.before _ s = true := fun w h => hts0 w (List.mem_cons_of_mem _ h)
  have hown : s.vm.findClass R_B = some m.cls := hown
  have hP : va_P D cls (bsW ad cL cI nv nb nt nf na lv nm vw vp tw ab am w) s.heap := hP
  have hl : lv_has ls 5 [(0, .ref (ad 0)), (1, .int kd), (2, .int ka), (3, .int kb), (4, .int kc)] := hl
  obtain ⟨o_nv, o_nb, o_nt, o_nf, o_na, o_lv, o_nm, o_vw, o_tw, o_am, o_ab⟩ := id hok
  refine lv_iload_n hx hb d_B_widthToBuild_0 rfl (lv_at hl 1 rfl) ?_
  refine lv_tableOut (tgt := 209) hx hb d_B_widthToBuild_1 hk (by decide) ?_
  refine lv_iconst (v := nI 0) hx hb d_B_widthToBuild_209 (by decide) ?_
  exact fn_iret hx hb hr hlocks hAe hK hP hD hS rfl d_B_widthToBuild_210
set_option maxHeartbeats 4000000 in
set_option maxRecDepth 100000 in
theorem c_B_widthToBuild (l : Launch) (D : va_G) (ad : Nat → Nat) (cL cI : ClassId) (nv nb nt nf na lv nm : Nat) (vw vp tw ab am : Nat → Nat) (w : Nat → Int64) (hok : Bok nv nb nt nf na lv nm vw vp tw ab am) (kd ka kb kc : Int32) : Fn l y_B_widthToBuild (wk y_B_widthToBuild b_B_widthToBuild 5 (some .int)) rm_B_widthToBuild D cls [(cL, .long), (cI, .int)] [.ref (ad 0), .int kd, .int ka, .int kb, .int kc] (bsW ad cL cI nv nb nt nf na lv nm vw vp tw ab am w) XT (some (.int (nI (pW nv nt nf vw tw kd ka kb kc)))) (bsW ad cL cI nv nb nt nf na lv nm vw vp tw ab am w) := by
  by_cases h : 0 ≤ kd.toInt ∧ kd.toInt ≤ 14
  · obtain ⟨j, hj, rfl⟩ := z_nat (x := kd) (n := 15) h.1 (by omega)
    have e : pW nv nt nf vw tw (nI j) ka kb kc = pWk nv nt nf vw tw j ka kb kc := by
      unfold pW
      rw [if_pos h, nI_toInt (by omega)]
      rfl
    rw [e]
    rcases (show j = 0 ∨ j = 1 ∨ j = 2 ∨ j = 3 ∨ j = 4 ∨ j = 5 ∨ j = 6 ∨ j = 7 ∨ j = 8 ∨ j = 9 ∨ j = 10 ∨ j = 11 ∨ j = 12 ∨ j = 13 ∨ j = 14 by omega) with rfl | rfl | rfl | rfl | rfl | rfl | rfl | rfl | rfl | rfl | rfl | rfl | rfl | rfl | rfl
    · exact c_B_widthToBuild_0 l D ad cL cI nv nb nt nf na lv nm vw vp tw ab am w hok ka kb kc
    · exact c_B_widthToBuild_1 l D ad cL cI nv nb nt nf na lv nm vw vp tw ab am w hok ka kb kc
    · exact c_B_widthToBuild_2 l D ad cL cI nv nb nt nf na lv nm vw vp tw ab am w hok ka kb kc
    · exact c_B_widthToBuild_3 l D ad cL cI nv nb nt nf na lv nm vw vp tw ab am w hok ka kb kc
    · exact c_B_widthToBuild_4 l D ad cL cI nv nb nt nf na lv nm vw vp tw ab am w hok ka kb kc
    · exact c_B_widthToBuild_5 l D ad cL cI nv nb nt nf na lv nm vw vp tw ab am w hok ka kb kc
    · exact c_B_widthToBuild_6 l D ad cL cI nv nb nt nf na lv nm vw vp tw ab am w hok ka kb kc
    · exact c_B_widthToBuild_7 l D ad cL cI nv nb nt nf na lv nm vw vp tw ab am w hok ka kb kc
    · exact c_B_widthToBuild_8 l D ad cL cI nv nb nt nf na lv nm vw vp tw ab am w hok ka kb kc
    · exact c_B_widthToBuild_9 l D ad cL cI nv nb nt nf na lv nm vw vp tw ab am w hok ka kb kc
    · exact c_B_widthToBuild_10 l D ad cL cI nv nb nt nf na lv nm vw vp tw ab am w hok ka kb kc
    · exact c_B_widthToBuild_11 l D ad cL cI nv nb nt nf na lv nm vw vp tw ab am w hok ka kb kc
    · exact c_B_widthToBuild_12 l D ad cL cI nv nb nt nf na lv nm vw vp tw ab am w hok ka kb kc
    · exact c_B_widthToBuild_13 l D ad cL cI nv nb nt nf na lv nm vw vp tw ab am w hok ka kb kc
    · exact c_B_widthToBuild_14 l D ad cL cI nv nb nt nf na lv nm vw vp tw ab am w hok ka kb kc
  · rw [show pW nv nt nf vw tw kd ka kb kc = 0 from if_neg h]
    exact c_B_widthToBuild_out l D ad cL cI nv nb nt nf na lv nm vw vp tw ab am w hok kd ka kb kc (by omega)
set_option maxHeartbeats 4000000 in
set_option maxRecDepth 100000 in
theorem c_B_canBuildFormula_0 (l : Launch) (D : va_G) (ad : Nat → Nat) (cL cI : ClassId) (nv nb nt nf na lv nm : Nat) (vw vp tw ab am : Nat → Nat) (w : Nat → Int64) (hok : Bok nv nb nt nf na lv nm vw vp tw ab am) (ka kb : Int32) : Fn l y_B_canBuildFormula (wk y_B_canBuildFormula b_B_canBuildFormula 4 (some .boolean)) rm_B_canBuildFormula D cls [(cL, .long), (cI, .int)] [.ref (ad 0), .int (nI 0), .int ka, .int kb] (bsW ad cL cI nv nb nt nf na lv nm vw vp tw ab am w) XT (some (.int (bI (fOk nt nf tw 0 ka kb)))) (bsW ad cL cI nv nb nt nf na lv nm vw vp tw ab am w) := by
  refine Fn.of (by decide) rfl (Nat.le_of_ble_eq_true rfl) ?_
  intro p e s m below meth c A ls hx hb hml hr hts0 hown hlocks hnm hP hK hD hS hA hAe hX hl
  have hts : ∀ w ∈ lw_ok, w.before _ s = true := fun w h => hts0 w (List.mem_cons_of_mem _ h)
  have hown : s.vm.findClass R_B = some m.cls := hown
  have hP : va_P D cls (bsW ad cL cI nv nb nt nf na lv nm vw vp tw ab am w) s.heap := hP
  have hl : lv_has ls 4 [(0, .ref (ad 0)), (1, .int (nI 0)), (2, .int ka), (3, .int kb)] := hl
  obtain ⟨o_nv, o_nb, o_nt, o_nf, o_na, o_lv, o_nm, o_vw, o_tw, o_am, o_ab⟩ := id hok
  refine lv_iload_n hx hb d_B_canBuildFormula_0 rfl (lv_at hl 1 rfl) ?_
  refine lv_tableIn (tgt := 60) (off := 59) hx hb d_B_canBuildFormula_1 (by decide +kernel) (by decide +kernel) (by decide +kernel) (by decide) ?_
  refine lv_aload_n hx hb d_B_canBuildFormula_60 rfl (lv_at hl 0 rfl) ?_
  refine lv_iload_n hx hb d_B_canBuildFormula_61 rfl (lv_at hl 2 rfl) ?_
  refine lv_iload_n hx hb d_B_canBuildFormula_62 rfl (lv_at hl 3 rfl) ?_
  refine fn_V (ws' := (bsW ad cL cI nv nb nt nf na lv nm vw vp tw ab am w)) (w1 := (bsW ad cL cI nv nb nt nf na lv nm vw vp tw ab am w)) (wc := (bsW ad cL cI nv nb nt nf na lv nm vw vp tw ab am w)) (wr := []) ⟨hx, hb, hml, hown, hts⟩ (c_B_commonWidth l D ad cL cI nv nb nt nf na lv nm vw vp tw ab am w hok ka kb) ⟨callB_of 2 hts (gW wd_244) rfl rfl rfl (hts _ wd_1) (hts _ wd_241) hd_B_commonWidth ⟨Nat.le_of_ble_eq_true rfl, Nat.le_of_ble_eq_true rfl⟩, hts _ wd_243, hts _ wd_p8⟩ XT_ok (fun _ _ _ => trivial) hK hP hD hS hA 0 0 rfl rfl rfl [0, 1] [0, 1, 2, 3, 4, 5, 6, 7, 8] [] [0, 1, 2, 3, 4, 5, 6, 7, 8] rfl rfl rfl rfl rfl (by decide) rfl rfl rfl hl.1 rfl (Nat.le_of_ble_eq_true rfl) d_B_canBuildFormula_63 ⟨Nat.zero_le _, Nat.zero_le _⟩ (st1 := [.int (nI (cW nt tw ka kb))]) rfl (fun H locs hP hD hS => ?_)
  have tl16 := cW_le (nt := nt) (tw := tw) o_tw (by omega) ka kb
  refine z_if_le (tgt := 73) hx hb (nI_toInt (by omega)) d_B_canBuildFormula_66 (by decide) (fun c_66 => ?_) (fun c_66 => ?_)
  · refine lv_iconst (v := nI 0) hx hb d_B_canBuildFormula_73 (by decide) ?_
    exact fn_zret hx hb hr hlocks hAe hK hP hD hS (by rw [show fOk nt nf tw 0 ka kb = false from decide_eq_false (by omega)]; rfl) d_B_canBuildFormula_74
  · refine lv_iconst (v := nI 1) hx hb d_B_canBuildFormula_69 (by decide) ?_
    refine lv_goto (tgt := 74) hx hb d_B_canBuildFormula_70 (by decide) ?_
    exact fn_zret hx hb hr hlocks hAe hK hP hD hS (by rw [show fOk nt nf tw 0 ka kb = true from decide_eq_true (by omega)]; rfl) d_B_canBuildFormula_74
set_option maxHeartbeats 4000000 in
set_option maxRecDepth 100000 in
theorem c_B_canBuildFormula_1 (l : Launch) (D : va_G) (ad : Nat → Nat) (cL cI : ClassId) (nv nb nt nf na lv nm : Nat) (vw vp tw ab am : Nat → Nat) (w : Nat → Int64) (hok : Bok nv nb nt nf na lv nm vw vp tw ab am) (ka kb : Int32) : Fn l y_B_canBuildFormula (wk y_B_canBuildFormula b_B_canBuildFormula 4 (some .boolean)) rm_B_canBuildFormula D cls [(cL, .long), (cI, .int)] [.ref (ad 0), .int (nI 1), .int ka, .int kb] (bsW ad cL cI nv nb nt nf na lv nm vw vp tw ab am w) XT (some (.int (bI (fOk nt nf tw 1 ka kb)))) (bsW ad cL cI nv nb nt nf na lv nm vw vp tw ab am w) := by
  refine Fn.of (by decide) rfl (Nat.le_of_ble_eq_true rfl) ?_
  intro p e s m below meth c A ls hx hb hml hr hts0 hown hlocks hnm hP hK hD hS hA hAe hX hl
  have hts : ∀ w ∈ lw_ok, w.before _ s = true := fun w h => hts0 w (List.mem_cons_of_mem _ h)
  have hown : s.vm.findClass R_B = some m.cls := hown
  have hP : va_P D cls (bsW ad cL cI nv nb nt nf na lv nm vw vp tw ab am w) s.heap := hP
  have hl : lv_has ls 4 [(0, .ref (ad 0)), (1, .int (nI 1)), (2, .int ka), (3, .int kb)] := hl
  obtain ⟨o_nv, o_nb, o_nt, o_nf, o_na, o_lv, o_nm, o_vw, o_tw, o_am, o_ab⟩ := id hok
  refine lv_iload_n hx hb d_B_canBuildFormula_0 rfl (lv_at hl 1 rfl) ?_
  refine lv_tableIn (tgt := 60) (off := 59) hx hb d_B_canBuildFormula_1 (by decide +kernel) (by decide +kernel) (by decide +kernel) (by decide) ?_
  refine lv_aload_n hx hb d_B_canBuildFormula_60 rfl (lv_at hl 0 rfl) ?_
  refine lv_iload_n hx hb d_B_canBuildFormula_61 rfl (lv_at hl 2 rfl) ?_
  refine lv_iload_n hx hb d_B_canBuildFormula_62 rfl (lv_at hl 3 rfl) ?_
  refine fn_V (ws' := (bsW ad cL cI nv nb nt nf na lv nm vw vp tw ab am w)) (w1 := (bsW ad cL cI nv nb nt nf na lv nm vw vp tw ab am w)) (wc := (bsW ad cL cI nv nb nt nf na lv nm vw vp tw ab am w)) (wr := []) ⟨hx, hb, hml, hown, hts⟩ (c_B_commonWidth l D ad cL cI nv nb nt nf na lv nm vw vp tw ab am w hok ka kb) ⟨callB_of 2 hts (gW wd_244) rfl rfl rfl (hts _ wd_1) (hts _ wd_241) hd_B_commonWidth ⟨Nat.le_of_ble_eq_true rfl, Nat.le_of_ble_eq_true rfl⟩, hts _ wd_243, hts _ wd_p8⟩ XT_ok (fun _ _ _ => trivial) hK hP hD hS hA 0 0 rfl rfl rfl [0, 1] [0, 1, 2, 3, 4, 5, 6, 7, 8] [] [0, 1, 2, 3, 4, 5, 6, 7, 8] rfl rfl rfl rfl rfl (by decide) rfl rfl rfl hl.1 rfl (Nat.le_of_ble_eq_true rfl) d_B_canBuildFormula_63 ⟨Nat.zero_le _, Nat.zero_le _⟩ (st1 := [.int (nI (cW nt tw ka kb))]) rfl (fun H locs hP hD hS => ?_)
  have tl17 := cW_le (nt := nt) (tw := tw) o_tw (by omega) ka kb
  refine z_if_le (tgt := 73) hx hb (nI_toInt (by omega)) d_B_canBuildFormula_66 (by decide) (fun c_66 => ?_) (fun c_66 => ?_)
  · refine lv_iconst (v := nI 0) hx hb d_B_canBuildFormula_73 (by decide) ?_
    exact fn_zret hx hb hr hlocks hAe hK hP hD hS (by rw [show fOk nt nf tw 1 ka kb = false from decide_eq_false (by omega)]; rfl) d_B_canBuildFormula_74
  · refine lv_iconst (v := nI 1) hx hb d_B_canBuildFormula_69 (by decide) ?_
    refine lv_goto (tgt := 74) hx hb d_B_canBuildFormula_70 (by decide) ?_
    exact fn_zret hx hb hr hlocks hAe hK hP hD hS (by rw [show fOk nt nf tw 1 ka kb = true from decide_eq_true (by omega)]; rfl) d_B_canBuildFormula_74
set_option maxHeartbeats 4000000 in
set_option maxRecDepth 100000 in
theorem c_B_canBuildFormula_2 (l : Launch) (D : va_G) (ad : Nat → Nat) (cL cI : ClassId) (nv nb nt nf na lv nm : Nat) (vw vp tw ab am : Nat → Nat) (w : Nat → Int64) (hok : Bok nv nb nt nf na lv nm vw vp tw ab am) (ka kb : Int32) : Fn l y_B_canBuildFormula (wk y_B_canBuildFormula b_B_canBuildFormula 4 (some .boolean)) rm_B_canBuildFormula D cls [(cL, .long), (cI, .int)] [.ref (ad 0), .int (nI 2), .int ka, .int kb] (bsW ad cL cI nv nb nt nf na lv nm vw vp tw ab am w) XT (some (.int (bI (fOk nt nf tw 2 ka kb)))) (bsW ad cL cI nv nb nt nf na lv nm vw vp tw ab am w) := by
  refine Fn.of (by decide) rfl (Nat.le_of_ble_eq_true rfl) ?_
  intro p e s m below meth c A ls hx hb hml hr hts0 hown hlocks hnm hP hK hD hS hA hAe hX hl
  have hts : ∀ w ∈ lw_ok, w.before _ s = true := fun w h => hts0 w (List.mem_cons_of_mem _ h)
  have hown : s.vm.findClass R_B = some m.cls := hown
  have hP : va_P D cls (bsW ad cL cI nv nb nt nf na lv nm vw vp tw ab am w) s.heap := hP
  have hl : lv_has ls 4 [(0, .ref (ad 0)), (1, .int (nI 2)), (2, .int ka), (3, .int kb)] := hl
  obtain ⟨o_nv, o_nb, o_nt, o_nf, o_na, o_lv, o_nm, o_vw, o_tw, o_am, o_ab⟩ := id hok
  refine lv_iload_n hx hb d_B_canBuildFormula_0 rfl (lv_at hl 1 rfl) ?_
  refine lv_tableIn (tgt := 60) (off := 59) hx hb d_B_canBuildFormula_1 (by decide +kernel) (by decide +kernel) (by decide +kernel) (by decide) ?_
  refine lv_aload_n hx hb d_B_canBuildFormula_60 rfl (lv_at hl 0 rfl) ?_
  refine lv_iload_n hx hb d_B_canBuildFormula_61 rfl (lv_at hl 2 rfl) ?_
  refine lv_iload_n hx hb d_B_canBuildFormula_62 rfl (lv_at hl 3 rfl) ?_
  refine fn_V (ws' := (bsW ad cL cI nv nb nt nf na lv nm vw vp tw ab am w)) (w1 := (bsW ad cL cI nv nb nt nf na lv nm vw vp tw ab am w)) (wc := (bsW ad cL cI nv nb nt nf na lv nm vw vp tw ab am w)) (wr := []) ⟨hx, hb, hml, hown, hts⟩ (c_B_commonWidth l D ad cL cI nv nb nt nf na lv nm vw vp tw ab am w hok ka kb) ⟨callB_of 2 hts (gW wd_244) rfl rfl rfl (hts _ wd_1) (hts _ wd_241) hd_B_commonWidth ⟨Nat.le_of_ble_eq_true rfl, Nat.le_of_ble_eq_true rfl⟩, hts _ wd_243, hts _ wd_p8⟩ XT_ok (fun _ _ _ => trivial) hK hP hD hS hA 0 0 rfl rfl rfl [0, 1] [0, 1, 2, 3, 4, 5, 6, 7, 8] [] [0, 1, 2, 3, 4, 5, 6, 7, 8] rfl rfl rfl rfl rfl (by decide) rfl rfl rfl hl.1 rfl (Nat.le_of_ble_eq_true rfl) d_B_canBuildFormula_63 ⟨Nat.zero_le _, Nat.zero_le _⟩ (st1 := [.int (nI (cW nt tw ka kb))]) rfl (fun H locs hP hD hS => ?_)
  have tl18 := cW_le (nt := nt) (tw := tw) o_tw (by omega) ka kb
  refine z_if_le (tgt := 73) hx hb (nI_toInt (by omega)) d_B_canBuildFormula_66 (by decide) (fun c_66 => ?_) (fun c_66 => ?_)
  · refine lv_iconst (v := nI 0) hx hb d_B_canBuildFormula_73 (by decide) ?_
    exact fn_zret hx hb hr hlocks hAe hK hP hD hS (by rw [show fOk nt nf tw 2 ka kb = false from decide_eq_false (by omega)]; rfl) d_B_canBuildFormula_74
  · refine lv_iconst (v := nI 1) hx hb d_B_canBuildFormula_69 (by decide) ?_
    refine lv_goto (tgt := 74) hx hb d_B_canBuildFormula_70 (by decide) ?_
    exact fn_zret hx hb hr hlocks hAe hK hP hD hS (by rw [show fOk nt nf tw 2 ka kb = true from decide_eq_true (by omega)]; rfl) d_B_canBuildFormula_74
set_option maxHeartbeats 4000000 in
set_option maxRecDepth 100000 in
theorem c_B_canBuildFormula_3 (l : Launch) (D : va_G) (ad : Nat → Nat) (cL cI : ClassId) (nv nb nt nf na lv nm : Nat) (vw vp tw ab am : Nat → Nat) (w : Nat → Int64) (hok : Bok nv nb nt nf na lv nm vw vp tw ab am) (ka kb : Int32) : Fn l y_B_canBuildFormula (wk y_B_canBuildFormula b_B_canBuildFormula 4 (some .boolean)) rm_B_canBuildFormula D cls [(cL, .long), (cI, .int)] [.ref (ad 0), .int (nI 3), .int ka, .int kb] (bsW ad cL cI nv nb nt nf na lv nm vw vp tw ab am w) XT (some (.int (bI (fOk nt nf tw 3 ka kb)))) (bsW ad cL cI nv nb nt nf na lv nm vw vp tw ab am w) := by
  refine Fn.of (by decide) rfl (Nat.le_of_ble_eq_true rfl) ?_
  intro p e s m below meth c A ls hx hb hml hr hts0 hown hlocks hnm hP hK hD hS hA hAe hX hl
  have hts : ∀ w ∈ lw_ok, w.before _ s = true := fun w h => hts0 w (List.mem_cons_of_mem _ h)
  have hown : s.vm.findClass R_B = some m.cls := hown
  have hP : va_P D cls (bsW ad cL cI nv nb nt nf na lv nm vw vp tw ab am w) s.heap := hP
  have hl : lv_has ls 4 [(0, .ref (ad 0)), (1, .int (nI 3)), (2, .int ka), (3, .int kb)] := hl
  obtain ⟨o_nv, o_nb, o_nt, o_nf, o_na, o_lv, o_nm, o_vw, o_tw, o_am, o_ab⟩ := id hok
  refine lv_iload_n hx hb d_B_canBuildFormula_0 rfl (lv_at hl 1 rfl) ?_
  refine lv_tableIn (tgt := 60) (off := 59) hx hb d_B_canBuildFormula_1 (by decide +kernel) (by decide +kernel) (by decide +kernel) (by decide) ?_
  refine lv_aload_n hx hb d_B_canBuildFormula_60 rfl (lv_at hl 0 rfl) ?_
  refine lv_iload_n hx hb d_B_canBuildFormula_61 rfl (lv_at hl 2 rfl) ?_
  refine lv_iload_n hx hb d_B_canBuildFormula_62 rfl (lv_at hl 3 rfl) ?_
  refine fn_V (ws' := (bsW ad cL cI nv nb nt nf na lv nm vw vp tw ab am w)) (w1 := (bsW ad cL cI nv nb nt nf na lv nm vw vp tw ab am w)) (wc := (bsW ad cL cI nv nb nt nf na lv nm vw vp tw ab am w)) (wr := []) ⟨hx, hb, hml, hown, hts⟩ (c_B_commonWidth l D ad cL cI nv nb nt nf na lv nm vw vp tw ab am w hok ka kb) ⟨callB_of 2 hts (gW wd_244) rfl rfl rfl (hts _ wd_1) (hts _ wd_241) hd_B_commonWidth ⟨Nat.le_of_ble_eq_true rfl, Nat.le_of_ble_eq_true rfl⟩, hts _ wd_243, hts _ wd_p8⟩ XT_ok (fun _ _ _ => trivial) hK hP hD hS hA 0 0 rfl rfl rfl [0, 1] [0, 1, 2, 3, 4, 5, 6, 7, 8] [] [0, 1, 2, 3, 4, 5, 6, 7, 8] rfl rfl rfl rfl rfl (by decide) rfl rfl rfl hl.1 rfl (Nat.le_of_ble_eq_true rfl) d_B_canBuildFormula_63 ⟨Nat.zero_le _, Nat.zero_le _⟩ (st1 := [.int (nI (cW nt tw ka kb))]) rfl (fun H locs hP hD hS => ?_)
  have tl19 := cW_le (nt := nt) (tw := tw) o_tw (by omega) ka kb
  refine z_if_le (tgt := 73) hx hb (nI_toInt (by omega)) d_B_canBuildFormula_66 (by decide) (fun c_66 => ?_) (fun c_66 => ?_)
  · refine lv_iconst (v := nI 0) hx hb d_B_canBuildFormula_73 (by decide) ?_
    exact fn_zret hx hb hr hlocks hAe hK hP hD hS (by rw [show fOk nt nf tw 3 ka kb = false from decide_eq_false (by omega)]; rfl) d_B_canBuildFormula_74
  · refine lv_iconst (v := nI 1) hx hb d_B_canBuildFormula_69 (by decide) ?_
    refine lv_goto (tgt := 74) hx hb d_B_canBuildFormula_70 (by decide) ?_
    exact fn_zret hx hb hr hlocks hAe hK hP hD hS (by rw [show fOk nt nf tw 3 ka kb = true from decide_eq_true (by omega)]; rfl) d_B_canBuildFormula_74
set_option maxHeartbeats 4000000 in
set_option maxRecDepth 100000 in
theorem c_B_canBuildFormula_4 (l : Launch) (D : va_G) (ad : Nat → Nat) (cL cI : ClassId) (nv nb nt nf na lv nm : Nat) (vw vp tw ab am : Nat → Nat) (w : Nat → Int64) (hok : Bok nv nb nt nf na lv nm vw vp tw ab am) (ka kb : Int32) : Fn l y_B_canBuildFormula (wk y_B_canBuildFormula b_B_canBuildFormula 4 (some .boolean)) rm_B_canBuildFormula D cls [(cL, .long), (cI, .int)] [.ref (ad 0), .int (nI 4), .int ka, .int kb] (bsW ad cL cI nv nb nt nf na lv nm vw vp tw ab am w) XT (some (.int (bI (fOk nt nf tw 4 ka kb)))) (bsW ad cL cI nv nb nt nf na lv nm vw vp tw ab am w) := by
  refine Fn.of (by decide) rfl (Nat.le_of_ble_eq_true rfl) ?_
  intro p e s m below meth c A ls hx hb hml hr hts0 hown hlocks hnm hP hK hD hS hA hAe hX hl
  have hts : ∀ w ∈ lw_ok, w.before _ s = true := fun w h => hts0 w (List.mem_cons_of_mem _ h)
  have hown : s.vm.findClass R_B = some m.cls := hown
  have hP : va_P D cls (bsW ad cL cI nv nb nt nf na lv nm vw vp tw ab am w) s.heap := hP
  have hl : lv_has ls 4 [(0, .ref (ad 0)), (1, .int (nI 4)), (2, .int ka), (3, .int kb)] := hl
  obtain ⟨o_nv, o_nb, o_nt, o_nf, o_na, o_lv, o_nm, o_vw, o_tw, o_am, o_ab⟩ := id hok
  refine lv_iload_n hx hb d_B_canBuildFormula_0 rfl (lv_at hl 1 rfl) ?_
  refine lv_tableIn (tgt := 60) (off := 59) hx hb d_B_canBuildFormula_1 (by decide +kernel) (by decide +kernel) (by decide +kernel) (by decide) ?_
  refine lv_aload_n hx hb d_B_canBuildFormula_60 rfl (lv_at hl 0 rfl) ?_
  refine lv_iload_n hx hb d_B_canBuildFormula_61 rfl (lv_at hl 2 rfl) ?_
  refine lv_iload_n hx hb d_B_canBuildFormula_62 rfl (lv_at hl 3 rfl) ?_
  refine fn_V (ws' := (bsW ad cL cI nv nb nt nf na lv nm vw vp tw ab am w)) (w1 := (bsW ad cL cI nv nb nt nf na lv nm vw vp tw ab am w)) (wc := (bsW ad cL cI nv nb nt nf na lv nm vw vp tw ab am w)) (wr := []) ⟨hx, hb, hml, hown, hts⟩ (c_B_commonWidth l D ad cL cI nv nb nt nf na lv nm vw vp tw ab am w hok ka kb) ⟨callB_of 2 hts (gW wd_244) rfl rfl rfl (hts _ wd_1) (hts _ wd_241) hd_B_commonWidth ⟨Nat.le_of_ble_eq_true rfl, Nat.le_of_ble_eq_true rfl⟩, hts _ wd_243, hts _ wd_p8⟩ XT_ok (fun _ _ _ => trivial) hK hP hD hS hA 0 0 rfl rfl rfl [0, 1] [0, 1, 2, 3, 4, 5, 6, 7, 8] [] [0, 1, 2, 3, 4, 5, 6, 7, 8] rfl rfl rfl rfl rfl (by decide) rfl rfl rfl hl.1 rfl (Nat.le_of_ble_eq_true rfl) d_B_canBuildFormula_63 ⟨Nat.zero_le _, Nat.zero_le _⟩ (st1 := [.int (nI (cW nt tw ka kb))]) rfl (fun H locs hP hD hS => ?_)
  have tl20 := cW_le (nt := nt) (tw := tw) o_tw (by omega) ka kb
  refine z_if_le (tgt := 73) hx hb (nI_toInt (by omega)) d_B_canBuildFormula_66 (by decide) (fun c_66 => ?_) (fun c_66 => ?_)
  · refine lv_iconst (v := nI 0) hx hb d_B_canBuildFormula_73 (by decide) ?_
    exact fn_zret hx hb hr hlocks hAe hK hP hD hS (by rw [show fOk nt nf tw 4 ka kb = false from decide_eq_false (by omega)]; rfl) d_B_canBuildFormula_74
  · refine lv_iconst (v := nI 1) hx hb d_B_canBuildFormula_69 (by decide) ?_
    refine lv_goto (tgt := 74) hx hb d_B_canBuildFormula_70 (by decide) ?_
    exact fn_zret hx hb hr hlocks hAe hK hP hD hS (by rw [show fOk nt nf tw 4 ka kb = true from decide_eq_true (by omega)]; rfl) d_B_canBuildFormula_74
set_option maxHeartbeats 4000000 in
set_option maxRecDepth 100000 in
theorem c_B_canBuildFormula_5 (l : Launch) (D : va_G) (ad : Nat → Nat) (cL cI : ClassId) (nv nb nt nf na lv nm : Nat) (vw vp tw ab am : Nat → Nat) (w : Nat → Int64) (hok : Bok nv nb nt nf na lv nm vw vp tw ab am) (ka kb : Int32) : Fn l y_B_canBuildFormula (wk y_B_canBuildFormula b_B_canBuildFormula 4 (some .boolean)) rm_B_canBuildFormula D cls [(cL, .long), (cI, .int)] [.ref (ad 0), .int (nI 5), .int ka, .int kb] (bsW ad cL cI nv nb nt nf na lv nm vw vp tw ab am w) XT (some (.int (bI (fOk nt nf tw 5 ka kb)))) (bsW ad cL cI nv nb nt nf na lv nm vw vp tw ab am w) := by
  refine Fn.of (by decide) rfl (Nat.le_of_ble_eq_true rfl) ?_
  intro p e s m below meth c A ls hx hb hml hr hts0 hown hlocks hnm hP hK hD hS hA hAe hX hl
  have hts : ∀ w ∈ lw_ok, w.before _ s = true := fun w h => hts0 w (List.mem_cons_of_mem _ h)
  have hown : s.vm.findClass R_B = some m.cls := hown
  have hP : va_P D cls (bsW ad cL cI nv nb nt nf na lv nm vw vp tw ab am w) s.heap := hP
  have hl : lv_has ls 4 [(0, .ref (ad 0)), (1, .int (nI 5)), (2, .int ka), (3, .int kb)] := hl
  obtain ⟨o_nv, o_nb, o_nt, o_nf, o_na, o_lv, o_nm, o_vw, o_tw, o_am, o_ab⟩ := id hok
  refine lv_iload_n hx hb d_B_canBuildFormula_0 rfl (lv_at hl 1 rfl) ?_
  refine lv_tableIn (tgt := 75) (off := 74) hx hb d_B_canBuildFormula_1 (by decide +kernel) (by decide +kernel) (by decide +kernel) (by decide) ?_
  refine lv_iload_n hx hb d_B_canBuildFormula_75 rfl (lv_at hl 3 rfl) ?_
  refine z_if_lt (tgt := 92) hx hb rfl d_B_canBuildFormula_76 (by decide) (fun c_76 => ?_) (fun c_76 => ?_)
  · refine lv_iconst (v := nI 0) hx hb d_B_canBuildFormula_92 (by decide) ?_
    exact fn_zret hx hb hr hlocks hAe hK hP hD hS (by rw [show fOk nt nf tw 5 ka kb = false from decide_eq_false (by omega)]; rfl) d_B_canBuildFormula_93
  · refine lv_iload_n hx hb d_B_canBuildFormula_79 rfl (lv_at hl 3 rfl) ?_
    refine lv_aload_n hx hb d_B_canBuildFormula_80 rfl (lv_at hl 0 rfl) ?_
    refine lv_iload_n hx hb d_B_canBuildFormula_81 rfl (lv_at hl 2 rfl) ?_
    refine fn_V (ws' := (bsW ad cL cI nv nb nt nf na lv nm vw vp tw ab am w)) (w1 := (bsW ad cL cI nv nb nt nf na lv nm vw vp tw ab am w)) (wc := (bsW ad cL cI nv nb nt nf na lv nm vw vp tw ab am w)) (wr := []) ⟨hx, hb, hml, hown, hts⟩ (c_B_widthOrNone l D ad cL cI nv nb nt nf na lv nm vw vp tw ab am w hok ka) ⟨callB_of 1 hts (gW wd_248) rfl rfl rfl (hts _ wd_1) (hts _ wd_245) hd_B_widthOrNone ⟨Nat.le_of_ble_eq_true rfl, Nat.le_of_ble_eq_true rfl⟩, hts _ wd_247, hts _ wd_p9⟩ XT_ok (fun _ _ _ => trivial) hK hP hD hS hA 0 0 rfl rfl rfl [0, 1] [0, 1, 2, 3, 4, 5, 6, 7, 8] [] [0, 1, 2, 3, 4, 5, 6, 7, 8] rfl rfl rfl rfl rfl (by decide) rfl rfl rfl hl.1 rfl (Nat.le_of_ble_eq_true rfl) d_B_canBuildFormula_82 ⟨Nat.zero_le _, Nat.zero_le _⟩ (st1 := [.int (nI (tW nt tw ka)), .int kb]) rfl (fun H locs hP hD hS => ?_)
    have tl21 := tW_le (nt := nt) (tw := tw) o_tw (by omega) ka
    refine z_icmp_ge (tgt := 92) hx hb rfl (nI_toInt (by omega)) d_B_canBuildFormula_85 (by decide) (fun c_85 => ?_) (fun c_85 => ?_)
    · refine lv_iconst (v := nI 0) hx hb d_B_canBuildFormula_92 (by decide) ?_
      exact fn_zret hx hb hr hlocks hAe hK hP hD hS (by rw [show fOk nt nf tw 5 ka kb = false from decide_eq_false (by omega)]; rfl) d_B_canBuildFormula_93
    · refine lv_iconst (v := nI 1) hx hb d_B_canBuildFormula_88 (by decide) ?_
      refine lv_goto (tgt := 93) hx hb d_B_canBuildFormula_89 (by decide) ?_
      exact fn_zret hx hb hr hlocks hAe hK hP hD hS (by rw [show fOk nt nf tw 5 ka kb = true from decide_eq_true ⟨by omega, by omega⟩]; rfl) d_B_canBuildFormula_93
set_option maxHeartbeats 4000000 in
set_option maxRecDepth 100000 in
theorem c_B_canBuildFormula_6 (l : Launch) (D : va_G) (ad : Nat → Nat) (cL cI : ClassId) (nv nb nt nf na lv nm : Nat) (vw vp tw ab am : Nat → Nat) (w : Nat → Int64) (hok : Bok nv nb nt nf na lv nm vw vp tw ab am) (ka kb : Int32) : Fn l y_B_canBuildFormula (wk y_B_canBuildFormula b_B_canBuildFormula 4 (some .boolean)) rm_B_canBuildFormula D cls [(cL, .long), (cI, .int)] [.ref (ad 0), .int (nI 6), .int ka, .int kb] (bsW ad cL cI nv nb nt nf na lv nm vw vp tw ab am w) XT (some (.int (bI (fOk nt nf tw 6 ka kb)))) (bsW ad cL cI nv nb nt nf na lv nm vw vp tw ab am w) := by
  refine Fn.of (by decide) rfl (Nat.le_of_ble_eq_true rfl) ?_
  intro p e s m below meth c A ls hx hb hml hr hts0 hown hlocks hnm hP hK hD hS hA hAe hX hl
  have hts : ∀ w ∈ lw_ok, w.before _ s = true := fun w h => hts0 w (List.mem_cons_of_mem _ h)
  have hown : s.vm.findClass R_B = some m.cls := hown
  have hP : va_P D cls (bsW ad cL cI nv nb nt nf na lv nm vw vp tw ab am w) s.heap := hP
  have hl : lv_has ls 4 [(0, .ref (ad 0)), (1, .int (nI 6)), (2, .int ka), (3, .int kb)] := hl
  obtain ⟨o_nv, o_nb, o_nt, o_nf, o_na, o_lv, o_nm, o_vw, o_tw, o_am, o_ab⟩ := id hok
  refine lv_iload_n hx hb d_B_canBuildFormula_0 rfl (lv_at hl 1 rfl) ?_
  refine lv_tableIn (tgt := 94) (off := 93) hx hb d_B_canBuildFormula_1 (by decide +kernel) (by decide +kernel) (by decide +kernel) (by decide) ?_
  refine lv_aload_n hx hb d_B_canBuildFormula_94 rfl (lv_at hl 0 rfl) ?_
  refine lv_iload_n hx hb d_B_canBuildFormula_95 rfl (lv_at hl 2 rfl) ?_
  refine fn_V (ws' := (bsW ad cL cI nv nb nt nf na lv nm vw vp tw ab am w)) (w1 := (bsW ad cL cI nv nb nt nf na lv nm vw vp tw ab am w)) (wc := (bsW ad cL cI nv nb nt nf na lv nm vw vp tw ab am w)) (wr := []) ⟨hx, hb, hml, hown, hts⟩ (c_B_hasFormula l D ad cL cI nv nb nt nf na lv nm vw vp tw ab am w hok ka) ⟨callB_of 1 hts (gW wd_256) rfl rfl rfl (hts _ wd_1) (hts _ wd_253) hd_B_hasFormula ⟨Nat.le_of_ble_eq_true rfl, Nat.le_of_ble_eq_true rfl⟩, hts _ wd_255, hts _ wd_p11⟩ XT_ok (fun _ _ _ => trivial) hK hP hD hS hA 0 0 rfl rfl rfl [0, 1] [0, 1, 2, 3, 4, 5, 6, 7, 8] [] [0, 1, 2, 3, 4, 5, 6, 7, 8] rfl rfl rfl rfl rfl (by decide) rfl rfl rfl hl.1 rfl (Nat.le_of_ble_eq_true rfl) d_B_canBuildFormula_96 ⟨Nat.zero_le _, Nat.zero_le _⟩ (st1 := [.int (bI (hasB ka nf))]) rfl (fun H locs hP hD hS => ?_)
  exact fn_zret hx hb hr hlocks hAe hK hP hD hS rfl d_B_canBuildFormula_99
set_option maxHeartbeats 4000000 in
set_option maxRecDepth 100000 in
theorem c_B_canBuildFormula_7 (l : Launch) (D : va_G) (ad : Nat → Nat) (cL cI : ClassId) (nv nb nt nf na lv nm : Nat) (vw vp tw ab am : Nat → Nat) (w : Nat → Int64) (hok : Bok nv nb nt nf na lv nm vw vp tw ab am) (ka kb : Int32) : Fn l y_B_canBuildFormula (wk y_B_canBuildFormula b_B_canBuildFormula 4 (some .boolean)) rm_B_canBuildFormula D cls [(cL, .long), (cI, .int)] [.ref (ad 0), .int (nI 7), .int ka, .int kb] (bsW ad cL cI nv nb nt nf na lv nm vw vp tw ab am w) XT (some (.int (bI (fOk nt nf tw 7 ka kb)))) (bsW ad cL cI nv nb nt nf na lv nm vw vp tw ab am w) := by
  refine Fn.of (by decide) rfl (Nat.le_of_ble_eq_true rfl) ?_
  intro p e s m below meth c A ls hx hb hml hr hts0 hown hlocks hnm hP hK hD hS hA hAe hX hl
  have hts : ∀ w ∈ lw_ok, w.before _ s = true := fun w h => hts0 w (List.mem_cons_of_mem _ h)
  have hown : s.vm.findClass R_B = some m.cls := hown
  have hP : va_P D cls (bsW ad cL cI nv nb nt nf na lv nm vw vp tw ab am w) s.heap := hP
  have hl : lv_has ls 4 [(0, .ref (ad 0)), (1, .int (nI 7)), (2, .int ka), (3, .int kb)] := hl
  obtain ⟨o_nv, o_nb, o_nt, o_nf, o_na, o_lv, o_nm, o_vw, o_tw, o_am, o_ab⟩ := id hok
  refine lv_iload_n hx hb d_B_canBuildFormula_0 rfl (lv_at hl 1 rfl) ?_
  refine lv_tableIn (tgt := 100) (off := 99) hx hb d_B_canBuildFormula_1 (by decide +kernel) (by decide +kernel) (by decide +kernel) (by decide) ?_
  refine lv_aload_n hx hb d_B_canBuildFormula_100 rfl (lv_at hl 0 rfl) ?_
  refine lv_iload_n hx hb d_B_canBuildFormula_101 rfl (lv_at hl 2 rfl) ?_
  refine fn_V (ws' := (bsW ad cL cI nv nb nt nf na lv nm vw vp tw ab am w)) (w1 := (bsW ad cL cI nv nb nt nf na lv nm vw vp tw ab am w)) (wc := (bsW ad cL cI nv nb nt nf na lv nm vw vp tw ab am w)) (wr := []) ⟨hx, hb, hml, hown, hts⟩ (c_B_hasFormula l D ad cL cI nv nb nt nf na lv nm vw vp tw ab am w hok ka) ⟨callB_of 1 hts (gW wd_256) rfl rfl rfl (hts _ wd_1) (hts _ wd_253) hd_B_hasFormula ⟨Nat.le_of_ble_eq_true rfl, Nat.le_of_ble_eq_true rfl⟩, hts _ wd_255, hts _ wd_p11⟩ XT_ok (fun _ _ _ => trivial) hK hP hD hS hA 0 0 rfl rfl rfl [0, 1] [0, 1, 2, 3, 4, 5, 6, 7, 8] [] [0, 1, 2, 3, 4, 5, 6, 7, 8] rfl rfl rfl rfl rfl (by decide) rfl rfl rfl hl.1 rfl (Nat.le_of_ble_eq_true rfl) d_B_canBuildFormula_102 ⟨Nat.zero_le _, Nat.zero_le _⟩ (st1 := [.int (bI (hasB ka nf))]) rfl (fun H locs hP hD hS => ?_)
  refine b_if_eq (tgt := 120) hx hb d_B_canBuildFormula_105 (by decide) (fun c_105 => ?_) (fun c_105 => ?_)
  · refine lv_iconst (v := nI 0) hx hb d_B_canBuildFormula_120 (by decide) ?_
    exact fn_zret hx hb hr hlocks hAe hK hP hD hS (by rw [show fOk nt nf tw 7 ka kb = false from by show (hasB ka nf && hasB kb nf) = false; rw [c_105]; rfl]; rfl) d_B_canBuildFormula_121
  · refine lv_aload_n hx hb d_B_canBuildFormula_108 rfl (lv_at hl 0 rfl) ?_
    refine lv_iload_n hx hb d_B_canBuildFormula_109 rfl (lv_at hl 3 rfl) ?_
    refine fn_V (ws' := (bsW ad cL cI nv nb nt nf na lv nm vw vp tw ab am w)) (w1 := (bsW ad cL cI nv nb nt nf na lv nm vw vp tw ab am w)) (wc := (bsW ad cL cI nv nb nt nf na lv nm vw vp tw ab am w)) (wr := []) ⟨hx, hb, hml, hown, hts⟩ (c_B_hasFormula l D ad cL cI nv nb nt nf na lv nm vw vp tw ab am w hok kb) ⟨callB_of 1 hts (gW wd_256) rfl rfl rfl (hts _ wd_1) (hts _ wd_253) hd_B_hasFormula ⟨Nat.le_of_ble_eq_true rfl, Nat.le_of_ble_eq_true rfl⟩, hts _ wd_255, hts _ wd_p11⟩ XT_ok (fun _ _ _ => trivial) hK hP hD hS hA 0 0 rfl rfl rfl [0, 1] [0, 1, 2, 3, 4, 5, 6, 7, 8] [] [0, 1, 2, 3, 4, 5, 6, 7, 8] rfl rfl rfl rfl rfl (by decide) rfl rfl rfl hl.1 rfl (Nat.le_of_ble_eq_true rfl) d_B_canBuildFormula_110 ⟨Nat.zero_le _, Nat.zero_le _⟩ (st1 := [.int (bI (hasB kb nf))]) rfl (fun H locs hP hD hS => ?_)
    refine b_if_eq (tgt := 120) hx hb d_B_canBuildFormula_113 (by decide) (fun c_113 => ?_) (fun c_113 => ?_)
    · refine lv_iconst (v := nI 0) hx hb d_B_canBuildFormula_120 (by decide) ?_
      exact fn_zret hx hb hr hlocks hAe hK hP hD hS (by rw [show fOk nt nf tw 7 ka kb = false from by show (hasB ka nf && hasB kb nf) = false; rw [c_105, c_113]; rfl]; rfl) d_B_canBuildFormula_121
    · refine lv_iconst (v := nI 1) hx hb d_B_canBuildFormula_116 (by decide) ?_
      refine lv_goto (tgt := 121) hx hb d_B_canBuildFormula_117 (by decide) ?_
      exact fn_zret hx hb hr hlocks hAe hK hP hD hS (by rw [show fOk nt nf tw 7 ka kb = true from by show (hasB ka nf && hasB kb nf) = true; rw [c_105, c_113]; rfl]; rfl) d_B_canBuildFormula_121
set_option maxHeartbeats 4000000 in
set_option maxRecDepth 100000 in
theorem c_B_canBuildFormula_8 (l : Launch) (D : va_G) (ad : Nat → Nat) (cL cI : ClassId) (nv nb nt nf na lv nm : Nat) (vw vp tw ab am : Nat → Nat) (w : Nat → Int64) (hok : Bok nv nb nt nf na lv nm vw vp tw ab am) (ka kb : Int32) : Fn l y_B_canBuildFormula (wk y_B_canBuildFormula b_B_canBuildFormula 4 (some .boolean)) rm_B_canBuildFormula D cls [(cL, .long), (cI, .int)] [.ref (ad 0), .int (nI 8), .int ka, .int kb] (bsW ad cL cI nv nb nt nf na lv nm vw vp tw ab am w) XT (some (.int (bI (fOk nt nf tw 8 ka kb)))) (bsW ad cL cI nv nb nt nf na lv nm vw vp tw ab am w) := by
  refine Fn.of (by decide) rfl (Nat.le_of_ble_eq_true rfl) ?_
  intro p e s m below meth c A ls hx hb hml hr hts0 hown hlocks hnm hP hK hD hS hA hAe hX hl
  have hts : ∀ w ∈ lw_ok, w.before _ s = true := fun w h => hts0 w (List.mem_cons_of_mem _ h)
  have hown : s.vm.findClass R_B = some m.cls := hown
  have hP : va_P D cls (bsW ad cL cI nv nb nt nf na lv nm vw vp tw ab am w) s.heap := hP
  have hl : lv_has ls 4 [(0, .ref (ad 0)), (1, .int (nI 8)), (2, .int ka), (3, .int kb)] := hl
  obtain ⟨o_nv, o_nb, o_nt, o_nf, o_na, o_lv, o_nm, o_vw, o_tw, o_am, o_ab⟩ := id hok
  refine lv_iload_n hx hb d_B_canBuildFormula_0 rfl (lv_at hl 1 rfl) ?_
  refine lv_tableIn (tgt := 100) (off := 99) hx hb d_B_canBuildFormula_1 (by decide +kernel) (by decide +kernel) (by decide +kernel) (by decide) ?_
  refine lv_aload_n hx hb d_B_canBuildFormula_100 rfl (lv_at hl 0 rfl) ?_
  refine lv_iload_n hx hb d_B_canBuildFormula_101 rfl (lv_at hl 2 rfl) ?_
  refine fn_V (ws' := (bsW ad cL cI nv nb nt nf na lv nm vw vp tw ab am w)) (w1 := (bsW ad cL cI nv nb nt nf na lv nm vw vp tw ab am w)) (wc := (bsW ad cL cI nv nb nt nf na lv nm vw vp tw ab am w)) (wr := []) ⟨hx, hb, hml, hown, hts⟩ (c_B_hasFormula l D ad cL cI nv nb nt nf na lv nm vw vp tw ab am w hok ka) ⟨callB_of 1 hts (gW wd_256) rfl rfl rfl (hts _ wd_1) (hts _ wd_253) hd_B_hasFormula ⟨Nat.le_of_ble_eq_true rfl, Nat.le_of_ble_eq_true rfl⟩, hts _ wd_255, hts _ wd_p11⟩ XT_ok (fun _ _ _ => trivial) hK hP hD hS hA 0 0 rfl rfl rfl [0, 1] [0, 1, 2, 3, 4, 5, 6, 7, 8] [] [0, 1, 2, 3, 4, 5, 6, 7, 8] rfl rfl rfl rfl rfl (by decide) rfl rfl rfl hl.1 rfl (Nat.le_of_ble_eq_true rfl) d_B_canBuildFormula_102 ⟨Nat.zero_le _, Nat.zero_le _⟩ (st1 := [.int (bI (hasB ka nf))]) rfl (fun H locs hP hD hS => ?_)
  refine b_if_eq (tgt := 120) hx hb d_B_canBuildFormula_105 (by decide) (fun c_105 => ?_) (fun c_105 => ?_)
  · refine lv_iconst (v := nI 0) hx hb d_B_canBuildFormula_120 (by decide) ?_
    exact fn_zret hx hb hr hlocks hAe hK hP hD hS (by rw [show fOk nt nf tw 8 ka kb = false from by show (hasB ka nf && hasB kb nf) = false; rw [c_105]; rfl]; rfl) d_B_canBuildFormula_121
  · refine lv_aload_n hx hb d_B_canBuildFormula_108 rfl (lv_at hl 0 rfl) ?_
    refine lv_iload_n hx hb d_B_canBuildFormula_109 rfl (lv_at hl 3 rfl) ?_
    refine fn_V (ws' := (bsW ad cL cI nv nb nt nf na lv nm vw vp tw ab am w)) (w1 := (bsW ad cL cI nv nb nt nf na lv nm vw vp tw ab am w)) (wc := (bsW ad cL cI nv nb nt nf na lv nm vw vp tw ab am w)) (wr := []) ⟨hx, hb, hml, hown, hts⟩ (c_B_hasFormula l D ad cL cI nv nb nt nf na lv nm vw vp tw ab am w hok kb) ⟨callB_of 1 hts (gW wd_256) rfl rfl rfl (hts _ wd_1) (hts _ wd_253) hd_B_hasFormula ⟨Nat.le_of_ble_eq_true rfl, Nat.le_of_ble_eq_true rfl⟩, hts _ wd_255, hts _ wd_p11⟩ XT_ok (fun _ _ _ => trivial) hK hP hD hS hA 0 0 rfl rfl rfl [0, 1] [0, 1, 2, 3, 4, 5, 6, 7, 8] [] [0, 1, 2, 3, 4, 5, 6, 7, 8] rfl rfl rfl rfl rfl (by decide) rfl rfl rfl hl.1 rfl (Nat.le_of_ble_eq_true rfl) d_B_canBuildFormula_110 ⟨Nat.zero_le _, Nat.zero_le _⟩ (st1 := [.int (bI (hasB kb nf))]) rfl (fun H locs hP hD hS => ?_)
    refine b_if_eq (tgt := 120) hx hb d_B_canBuildFormula_113 (by decide) (fun c_113 => ?_) (fun c_113 => ?_)
    · refine lv_iconst (v := nI 0) hx hb d_B_canBuildFormula_120 (by decide) ?_
      exact fn_zret hx hb hr hlocks hAe hK hP hD hS (by rw [show fOk nt nf tw 8 ka kb = false from by show (hasB ka nf && hasB kb nf) = false; rw [c_105, c_113]; rfl]; rfl) d_B_canBuildFormula_121
    · refine lv_iconst (v := nI 1) hx hb d_B_canBuildFormula_116 (by decide) ?_
      refine lv_goto (tgt := 121) hx hb d_B_canBuildFormula_117 (by decide) ?_
      exact fn_zret hx hb hr hlocks hAe hK hP hD hS (by rw [show fOk nt nf tw 8 ka kb = true from by show (hasB ka nf && hasB kb nf) = true; rw [c_105, c_113]; rfl]; rfl) d_B_canBuildFormula_121
set_option maxHeartbeats 4000000 in
set_option maxRecDepth 100000 in
theorem c_B_canBuildFormula_9 (l : Launch) (D : va_G) (ad : Nat → Nat) (cL cI : ClassId) (nv nb nt nf na lv nm : Nat) (vw vp tw ab am : Nat → Nat) (w : Nat → Int64) (hok : Bok nv nb nt nf na lv nm vw vp tw ab am) (ka kb : Int32) : Fn l y_B_canBuildFormula (wk y_B_canBuildFormula b_B_canBuildFormula 4 (some .boolean)) rm_B_canBuildFormula D cls [(cL, .long), (cI, .int)] [.ref (ad 0), .int (nI 9), .int ka, .int kb] (bsW ad cL cI nv nb nt nf na lv nm vw vp tw ab am w) XT (some (.int (bI (fOk nt nf tw 9 ka kb)))) (bsW ad cL cI nv nb nt nf na lv nm vw vp tw ab am w) := by
  refine Fn.of (by decide) rfl (Nat.le_of_ble_eq_true rfl) ?_
  intro p e s m below meth c A ls hx hb hml hr hts0 hown hlocks hnm hP hK hD hS hA hAe hX hl
  have hts : ∀ w ∈ lw_ok, w.before _ s = true := fun w h => hts0 w (List.mem_cons_of_mem _ h)
  have hown : s.vm.findClass R_B = some m.cls := hown
  have hP : va_P D cls (bsW ad cL cI nv nb nt nf na lv nm vw vp tw ab am w) s.heap := hP
  have hl : lv_has ls 4 [(0, .ref (ad 0)), (1, .int (nI 9)), (2, .int ka), (3, .int kb)] := hl
  obtain ⟨o_nv, o_nb, o_nt, o_nf, o_na, o_lv, o_nm, o_vw, o_tw, o_am, o_ab⟩ := id hok
  refine lv_iload_n hx hb d_B_canBuildFormula_0 rfl (lv_at hl 1 rfl) ?_
  refine lv_tableIn (tgt := 100) (off := 99) hx hb d_B_canBuildFormula_1 (by decide +kernel) (by decide +kernel) (by decide +kernel) (by decide) ?_
  refine lv_aload_n hx hb d_B_canBuildFormula_100 rfl (lv_at hl 0 rfl) ?_
  refine lv_iload_n hx hb d_B_canBuildFormula_101 rfl (lv_at hl 2 rfl) ?_
  refine fn_V (ws' := (bsW ad cL cI nv nb nt nf na lv nm vw vp tw ab am w)) (w1 := (bsW ad cL cI nv nb nt nf na lv nm vw vp tw ab am w)) (wc := (bsW ad cL cI nv nb nt nf na lv nm vw vp tw ab am w)) (wr := []) ⟨hx, hb, hml, hown, hts⟩ (c_B_hasFormula l D ad cL cI nv nb nt nf na lv nm vw vp tw ab am w hok ka) ⟨callB_of 1 hts (gW wd_256) rfl rfl rfl (hts _ wd_1) (hts _ wd_253) hd_B_hasFormula ⟨Nat.le_of_ble_eq_true rfl, Nat.le_of_ble_eq_true rfl⟩, hts _ wd_255, hts _ wd_p11⟩ XT_ok (fun _ _ _ => trivial) hK hP hD hS hA 0 0 rfl rfl rfl [0, 1] [0, 1, 2, 3, 4, 5, 6, 7, 8] [] [0, 1, 2, 3, 4, 5, 6, 7, 8] rfl rfl rfl rfl rfl (by decide) rfl rfl rfl hl.1 rfl (Nat.le_of_ble_eq_true rfl) d_B_canBuildFormula_102 ⟨Nat.zero_le _, Nat.zero_le _⟩ (st1 := [.int (bI (hasB ka nf))]) rfl (fun H locs hP hD hS => ?_)
  refine b_if_eq (tgt := 120) hx hb d_B_canBuildFormula_105 (by decide) (fun c_105 => ?_) (fun c_105 => ?_)
  · refine lv_iconst (v := nI 0) hx hb d_B_canBuildFormula_120 (by decide) ?_
    exact fn_zret hx hb hr hlocks hAe hK hP hD hS (by rw [show fOk nt nf tw 9 ka kb = false from by show (hasB ka nf && hasB kb nf) = false; rw [c_105]; rfl]; rfl) d_B_canBuildFormula_121
  · refine lv_aload_n hx hb d_B_canBuildFormula_108 rfl (lv_at hl 0 rfl) ?_
    refine lv_iload_n hx hb d_B_canBuildFormula_109 rfl (lv_at hl 3 rfl) ?_
    refine fn_V (ws' := (bsW ad cL cI nv nb nt nf na lv nm vw vp tw ab am w)) (w1 := (bsW ad cL cI nv nb nt nf na lv nm vw vp tw ab am w)) (wc := (bsW ad cL cI nv nb nt nf na lv nm vw vp tw ab am w)) (wr := []) ⟨hx, hb, hml, hown, hts⟩ (c_B_hasFormula l D ad cL cI nv nb nt nf na lv nm vw vp tw ab am w hok kb) ⟨callB_of 1 hts (gW wd_256) rfl rfl rfl (hts _ wd_1) (hts _ wd_253) hd_B_hasFormula ⟨Nat.le_of_ble_eq_true rfl, Nat.le_of_ble_eq_true rfl⟩, hts _ wd_255, hts _ wd_p11⟩ XT_ok (fun _ _ _ => trivial) hK hP hD hS hA 0 0 rfl rfl rfl [0, 1] [0, 1, 2, 3, 4, 5, 6, 7, 8] [] [0, 1, 2, 3, 4, 5, 6, 7, 8] rfl rfl rfl rfl rfl (by decide) rfl rfl rfl hl.1 rfl (Nat.le_of_ble_eq_true rfl) d_B_canBuildFormula_110 ⟨Nat.zero_le _, Nat.zero_le _⟩ (st1 := [.int (bI (hasB kb nf))]) rfl (fun H locs hP hD hS => ?_)
    refine b_if_eq (tgt := 120) hx hb d_B_canBuildFormula_113 (by decide) (fun c_113 => ?_) (fun c_113 => ?_)
    · refine lv_iconst (v := nI 0) hx hb d_B_canBuildFormula_120 (by decide) ?_
      exact fn_zret hx hb hr hlocks hAe hK hP hD hS (by rw [show fOk nt nf tw 9 ka kb = false from by show (hasB ka nf && hasB kb nf) = false; rw [c_105, c_113]; rfl]; rfl) d_B_canBuildFormula_121
    · refine lv_iconst (v := nI 1) hx hb d_B_canBuildFormula_116 (by decide) ?_
      refine lv_goto (tgt := 121) hx hb d_B_canBuildFormula_117 (by decide) ?_
      exact fn_zret hx hb hr hlocks hAe hK hP hD hS (by rw [show fOk nt nf tw 9 ka kb = true from by show (hasB ka nf && hasB kb nf) = true; rw [c_105, c_113]; rfl]; rfl) d_B_canBuildFormula_121
set_option maxHeartbeats 4000000 in
set_option maxRecDepth 100000 in
theorem c_B_canBuildFormula_10 (l : Launch) (D : va_G) (ad : Nat → Nat) (cL cI : ClassId) (nv nb nt nf na lv nm : Nat) (vw vp tw ab am : Nat → Nat) (w : Nat → Int64) (hok : Bok nv nb nt nf na lv nm vw vp tw ab am) (ka kb : Int32) : Fn l y_B_canBuildFormula (wk y_B_canBuildFormula b_B_canBuildFormula 4 (some .boolean)) rm_B_canBuildFormula D cls [(cL, .long), (cI, .int)] [.ref (ad 0), .int (nI 10), .int ka, .int kb] (bsW ad cL cI nv nb nt nf na lv nm vw vp tw ab am w) XT (some (.int (bI (fOk nt nf tw 10 ka kb)))) (bsW ad cL cI nv nb nt nf na lv nm vw vp tw ab am w) := by
  refine Fn.of (by decide) rfl (Nat.le_of_ble_eq_true rfl) ?_
  intro p e s m below meth c A ls hx hb hml hr hts0 hown hlocks hnm hP hK hD hS hA hAe hX hl
  have hts : ∀ w ∈ lw_ok, w.before _ s = true := fun w h => hts0 w (List.mem_cons_of_mem _ h)
  have hown : s.vm.findClass R_B = some m.cls := hown
  have hP : va_P D cls (bsW ad cL cI nv nb nt nf na lv nm vw vp tw ab am w) s.heap := hP
  have hl : lv_has ls 4 [(0, .ref (ad 0)), (1, .int (nI 10)), (2, .int ka), (3, .int kb)] := hl
  obtain ⟨o_nv, o_nb, o_nt, o_nf, o_na, o_lv, o_nm, o_vw, o_tw, o_am, o_ab⟩ := id hok
  refine lv_iload_n hx hb d_B_canBuildFormula_0 rfl (lv_at hl 1 rfl) ?_
  refine lv_tableIn (tgt := 100) (off := 99) hx hb d_B_canBuildFormula_1 (by decide +kernel) (by decide +kernel) (by decide +kernel) (by decide) ?_
  refine lv_aload_n hx hb d_B_canBuildFormula_100 rfl (lv_at hl 0 rfl) ?_
  refine lv_iload_n hx hb d_B_canBuildFormula_101 rfl (lv_at hl 2 rfl) ?_
  refine fn_V (ws' := (bsW ad cL cI nv nb nt nf na lv nm vw vp tw ab am w)) (w1 := (bsW ad cL cI nv nb nt nf na lv nm vw vp tw ab am w)) (wc := (bsW ad cL cI nv nb nt nf na lv nm vw vp tw ab am w)) (wr := []) ⟨hx, hb, hml, hown, hts⟩ (c_B_hasFormula l D ad cL cI nv nb nt nf na lv nm vw vp tw ab am w hok ka) ⟨callB_of 1 hts (gW wd_256) rfl rfl rfl (hts _ wd_1) (hts _ wd_253) hd_B_hasFormula ⟨Nat.le_of_ble_eq_true rfl, Nat.le_of_ble_eq_true rfl⟩, hts _ wd_255, hts _ wd_p11⟩ XT_ok (fun _ _ _ => trivial) hK hP hD hS hA 0 0 rfl rfl rfl [0, 1] [0, 1, 2, 3, 4, 5, 6, 7, 8] [] [0, 1, 2, 3, 4, 5, 6, 7, 8] rfl rfl rfl rfl rfl (by decide) rfl rfl rfl hl.1 rfl (Nat.le_of_ble_eq_true rfl) d_B_canBuildFormula_102 ⟨Nat.zero_le _, Nat.zero_le _⟩ (st1 := [.int (bI (hasB ka nf))]) rfl (fun H locs hP hD hS => ?_)
  refine b_if_eq (tgt := 120) hx hb d_B_canBuildFormula_105 (by decide) (fun c_105 => ?_) (fun c_105 => ?_)
  · refine lv_iconst (v := nI 0) hx hb d_B_canBuildFormula_120 (by decide) ?_
    exact fn_zret hx hb hr hlocks hAe hK hP hD hS (by rw [show fOk nt nf tw 10 ka kb = false from by show (hasB ka nf && hasB kb nf) = false; rw [c_105]; rfl]; rfl) d_B_canBuildFormula_121
  · refine lv_aload_n hx hb d_B_canBuildFormula_108 rfl (lv_at hl 0 rfl) ?_
    refine lv_iload_n hx hb d_B_canBuildFormula_109 rfl (lv_at hl 3 rfl) ?_
    refine fn_V (ws' := (bsW ad cL cI nv nb nt nf na lv nm vw vp tw ab am w)) (w1 := (bsW ad cL cI nv nb nt nf na lv nm vw vp tw ab am w)) (wc := (bsW ad cL cI nv nb nt nf na lv nm vw vp tw ab am w)) (wr := []) ⟨hx, hb, hml, hown, hts⟩ (c_B_hasFormula l D ad cL cI nv nb nt nf na lv nm vw vp tw ab am w hok kb) ⟨callB_of 1 hts (gW wd_256) rfl rfl rfl (hts _ wd_1) (hts _ wd_253) hd_B_hasFormula ⟨Nat.le_of_ble_eq_true rfl, Nat.le_of_ble_eq_true rfl⟩, hts _ wd_255, hts _ wd_p11⟩ XT_ok (fun _ _ _ => trivial) hK hP hD hS hA 0 0 rfl rfl rfl [0, 1] [0, 1, 2, 3, 4, 5, 6, 7, 8] [] [0, 1, 2, 3, 4, 5, 6, 7, 8] rfl rfl rfl rfl rfl (by decide) rfl rfl rfl hl.1 rfl (Nat.le_of_ble_eq_true rfl) d_B_canBuildFormula_110 ⟨Nat.zero_le _, Nat.zero_le _⟩ (st1 := [.int (bI (hasB kb nf))]) rfl (fun H locs hP hD hS => ?_)
    refine b_if_eq (tgt := 120) hx hb d_B_canBuildFormula_113 (by decide) (fun c_113 => ?_) (fun c_113 => ?_)
    · refine lv_iconst (v := nI 0) hx hb d_B_canBuildFormula_120 (by decide) ?_
      exact fn_zret hx hb hr hlocks hAe hK hP hD hS (by rw [show fOk nt nf tw 10 ka kb = false from by show (hasB ka nf && hasB kb nf) = false; rw [c_105, c_113]; rfl]; rfl) d_B_canBuildFormula_121
    · refine lv_iconst (v := nI 1) hx hb d_B_canBuildFormula_116 (by decide) ?_
      refine lv_goto (tgt := 121) hx hb d_B_canBuildFormula_117 (by decide) ?_
      exact fn_zret hx hb hr hlocks hAe hK hP hD hS (by rw [show fOk nt nf tw 10 ka kb = true from by show (hasB ka nf && hasB kb nf) = true; rw [c_105, c_113]; rfl]; rfl) d_B_canBuildFormula_121
set_option maxHeartbeats 4000000 in
set_option maxRecDepth 100000 in
theorem c_B_canBuildFormula_out (l : Launch) (D : va_G) (ad : Nat → Nat) (cL cI : ClassId) (nv nb nt nf na lv nm : Nat) (vw vp tw ab am : Nat → Nat) (w : Nat → Int64) (hok : Bok nv nb nt nf na lv nm vw vp tw ab am) (kd ka kb : Int32) (hk : kd.toInt < 0 ∨ 10 < kd.toInt) : Fn l y_B_canBuildFormula (wk y_B_canBuildFormula b_B_canBuildFormula 4 (some .boolean)) rm_B_canBuildFormula D cls [(cL, .long), (cI, .int)] [.ref (ad 0), .int kd, .int ka, .int kb] (bsW ad cL cI nv nb nt nf na lv nm vw vp tw ab am w) XT (some (.int (bI false))) (bsW ad cL cI nv nb nt nf na lv nm vw vp tw ab am w) := by
  refine Fn.of (by decide) rfl (Nat.le_of_ble_eq_true rfl) ?_
  intro p e s m below meth c A ls hx hb hml hr hts0 hown hlocks hnm hP hK hD hS hA hAe hX hl
  have hts : ∀ w ∈ lw_ok, w.before _ s = true := fun w h => hts0 w (List.mem_cons_of_mem _ h)
  have hown : s.vm.findClass R_B = some m.cls := hown
  have hP : va_P D cls (bsW ad cL cI nv nb nt nf na lv nm vw vp tw ab am w) s.heap := hP
  have hl : lv_has ls 4 [(0, .ref (ad 0)), (1, .int kd), (2, .int ka), (3, .int kb)] := hl
  obtain ⟨o_nv, o_nb, o_nt, o_nf, o_na, o_lv, o_nm, o_vw, o_tw, o_am, o_ab⟩ := id hok
  refine lv_iload_n hx hb d_B_canBuildFormula_0 rfl (lv_at hl 1 rfl) ?_
  refine lv_tableOut (tgt := 122) hx hb d_B_canBuildFormula_1 hk (by decide) ?_
  refine lv_iconst (v := nI 0) hx hb d_B_canBuildFormula_122 (by decide) ?_
  exact fn_zret hx hb hr hlocks hAe hK hP hD hS rfl d_B_canBuildFormula_123
set_option maxHeartbeats 4000000 in
set_option maxRecDepth 100000 in
theorem c_B_canBuildFormula (l : Launch) (D : va_G) (ad : Nat → Nat) (cL cI : ClassId) (nv nb nt nf na lv nm : Nat) (vw vp tw ab am : Nat → Nat) (w : Nat → Int64) (hok : Bok nv nb nt nf na lv nm vw vp tw ab am) (kd ka kb : Int32) : Fn l y_B_canBuildFormula (wk y_B_canBuildFormula b_B_canBuildFormula 4 (some .boolean)) rm_B_canBuildFormula D cls [(cL, .long), (cI, .int)] [.ref (ad 0), .int kd, .int ka, .int kb] (bsW ad cL cI nv nb nt nf na lv nm vw vp tw ab am w) XT (some (.int (bI (pF nt nf tw kd ka kb)))) (bsW ad cL cI nv nb nt nf na lv nm vw vp tw ab am w) := by
  by_cases h : 0 ≤ kd.toInt ∧ kd.toInt ≤ 10
  · obtain ⟨j, hj, rfl⟩ := z_nat (x := kd) (n := 11) h.1 (by omega)
    have e : pF nt nf tw (nI j) ka kb = fOk nt nf tw j ka kb := by
      unfold pF
      rw [if_pos h, nI_toInt (by omega)]
      rfl
    rw [e]
    rcases (show j = 0 ∨ j = 1 ∨ j = 2 ∨ j = 3 ∨ j = 4 ∨ j = 5 ∨ j = 6 ∨ j = 7 ∨ j = 8 ∨ j = 9 ∨ j = 10 by omega) with rfl | rfl | rfl | rfl | rfl | rfl | rfl | rfl | rfl | rfl | rfl
    · exact c_B_canBuildFormula_0 l D ad cL cI nv nb nt nf na lv nm vw vp tw ab am w hok ka kb
    · exact c_B_canBuildFormula_1 l D ad cL cI nv nb nt nf na lv nm vw vp tw ab am w hok ka kb
    · exact c_B_canBuildFormula_2 l D ad cL cI nv nb nt nf na lv nm vw vp tw ab am w hok ka kb
    · exact c_B_canBuildFormula_3 l D ad cL cI nv nb nt nf na lv nm vw vp tw ab am w hok ka kb
    · exact c_B_canBuildFormula_4 l D ad cL cI nv nb nt nf na lv nm vw vp tw ab am w hok ka kb
    · exact c_B_canBuildFormula_5 l D ad cL cI nv nb nt nf na lv nm vw vp tw ab am w hok ka kb
    · exact c_B_canBuildFormula_6 l D ad cL cI nv nb nt nf na lv nm vw vp tw ab am w hok ka kb
    · exact c_B_canBuildFormula_7 l D ad cL cI nv nb nt nf na lv nm vw vp tw ab am w hok ka kb
    · exact c_B_canBuildFormula_8 l D ad cL cI nv nb nt nf na lv nm vw vp tw ab am w hok ka kb
    · exact c_B_canBuildFormula_9 l D ad cL cI nv nb nt nf na lv nm vw vp tw ab am w hok ka kb
    · exact c_B_canBuildFormula_10 l D ad cL cI nv nb nt nf na lv nm vw vp tw ab am w hok ka kb
  · rw [show pF nt nf tw kd ka kb = false from if_neg h]
    exact c_B_canBuildFormula_out l D ad cL cI nv nb nt nf na lv nm vw vp tw ab am w hok kd ka kb (by omega)
set_option maxHeartbeats 4000000 in
set_option maxRecDepth 100000 in
theorem c_B_buildNumber (l : Launch) (D : va_G) (ad : Nat → Nat) (cL cI : ClassId) (nv nb nt nf na lv nm : Nat) (vw vp tw ab am : Nat → Nat) (w : Nat → Int64) (hok : Bok nv nb nt nf na lv nm vw vp tw ab am) (to num wd : Nat) (h1 : to + wd ≤ 260) (h2 : num < 2 ^ 31) (h3 : wd ≤ 4) : Fn l y_B_buildNumber (wk y_B_buildNumber b_B_buildNumber 5 none) rm_B_buildNumber D cls [(cL, .long), (cI, .int)] [.ref (ad 0), .int (nI to), .int (nI num), .int (nI wd)] (bsW ad cL cI nv nb nt nf na lv nm vw vp tw ab am w) XT none (bsW ad cL cI nv nb nt nf na lv nm vw vp tw ab am (oNum to num wd w)) := by
  refine Fn.of (by decide) rfl (Nat.le_of_ble_eq_true rfl) ?_
  intro p e s m below meth c A ls hx hb hml hr hts0 hown hlocks hnm hP hK hD hS hA hAe hX hl
  have hts : ∀ w ∈ lw_ok, w.before _ s = true := fun w h => hts0 w (List.mem_cons_of_mem _ h)
  have hown : s.vm.findClass R_B = some m.cls := hown
  have hP : va_P D cls (bsW ad cL cI nv nb nt nf na lv nm vw vp tw ab am w) s.heap := hP
  have hl : lv_has ls 5 [(0, .ref (ad 0)), (1, .int (nI to)), (2, .int (nI num)), (3, .int (nI wd))] := hl
  obtain ⟨o_nv, o_nb, o_nt, o_nf, o_na, o_lv, o_nm, o_vw, o_tw, o_am, o_ab⟩ := id hok
  refine lv_iconst (v := nI 0) hx hb d_B_buildNumber_0 (by decide) ?_
  refine lv_istore (lv' := [(4, .int (nI 0)), (0, .ref (ad 0)), (1, .int (nI to)), (2, .int (nI num)), (3, .int (nI wd))]) hx hb d_B_buildNumber_1 hl (by decide) rfl (fun ls hl => ?_)
  refine w_loop 3 [] (wd) (fun i H locs ls => va_P D cls (bsW ad cL cI nv nb nt nf na lv nm vw vp tw ab am (oNum to num i w)) H ∧ va_D A (bsW ad cL cI nv nb nt nf na lv nm vw vp tw ab am (oNum to num i w)) ∧ va_S A s.heap H locs ∧ lv_has ls 5 [(4, .int (nI i)), (0, .ref (ad 0)), (1, .int (nI to)), (2, .int (nI num)), (3, .int (nI wd))]) ?_ 0 (Nat.zero_le _) _ _ ls ⟨hP, hD, hS, lv_sub hl [0, 1, 2, 3, 4] rfl⟩
  intro i hi ih H locs ls ⟨hP, hD, hS, hl⟩
  refine lv_iload hx hb d_B_buildNumber_3 (lv_at hl 0 rfl) ?_
  refine lv_iload_n hx hb d_B_buildNumber_5 rfl (lv_at hl 4 rfl) ?_
  refine z_icmp_ge (tgt := 42) hx hb (nI_toInt (by omega)) (nI_toInt (by omega)) d_B_buildNumber_6 (by decide) (fun c_6 => ?_) (fun c_6 => ?_)
  · obtain rfl : wd = i := by omega
    exact fn_vret hx hb hr hlocks hAe hK hP hD hS d_B_buildNumber_42
  · refine lv_aload_n hx hb d_B_buildNumber_9 rfl (lv_at hl 1 rfl) ?_
    refine va_get (D := D) (ci := 0) (v := .ref (ad 2)) (C := R_B) (T := F_B) (N := 14) hx hb hts in_B hown hK hP 0 rfl rfl 0 (by decide) (hts _ wd_47) (fun _ h9 => h9) rfl d_B_buildNumber_10 ?_
    refine lv_iload_n hx hb d_B_buildNumber_13 rfl (lv_at hl 2 rfl) ?_
    refine lv_iload hx hb d_B_buildNumber_14 (lv_at hl 0 rfl) ?_
    refine n_add hx hb d_B_buildNumber_16 ?_
    refine lv_iconst (v := nI 1) hx hb d_B_buildNumber_17 (by decide) ?_
    refine lv_iload_n hx hb d_B_buildNumber_18 rfl (lv_at hl 3 rfl) ?_
    refine lv_iload hx hb d_B_buildNumber_19 (lv_at hl 0 rfl) ?_
    refine n_shr hx hb (by omega) (by omega) d_B_buildNumber_21 ?_
    refine lv_iconst (v := nI 1) hx hb d_B_buildNumber_22 (by decide) ?_
    refine n_and1 hx hb d_B_buildNumber_23 ?_
    refine lv_iconst (v := nI 1) hx hb d_B_buildNumber_24 (by decide) ?_
    refine z_icmp_ne (tgt := 32) hx hb (nI_toInt (by omega)) (nI_toInt (by omega)) d_B_buildNumber_25 (by decide) (fun c_25 => ?_) (fun c_25 => ?_)
    · refine lv_iconst (v := nI 0) hx hb d_B_buildNumber_32 (by decide) ?_
      refine fn_V (ws' := (bsW ad cL cI nv nb nt nf na lv nm vw vp tw ab am (oFill false (to + i) 1 (oNum to num i w)))) (w1 := (setsW (ad 2) (ad 3) cL (oFill false (to + i) 1 (oNum to num i w)))) (wc := (setsW (ad 2) (ad 3) cL (oNum to num i w))) (wr := [(ad 0, .inr (0, [.ref (ad 2), .ref (ad 1), .ref (ad 4), .ref (ad 5), .int (nI nv), .int (nI nb), .ref (ad 6), .int (nI nt), .int (nI nf), .ref (ad 7), .int (nI na), .int (nI lv), .ref (ad 8), .int (nI nm)])), (ad 1, .inr (2, [.ref (ad 2)])), (ad 4, .inl (cI, 6, .inl (fun j => nI (vw j)))), (ad 5, .inl (cI, 6, .inl (fun j => nI (vp j)))), (ad 6, .inl (cI, 50, .inl (fun j => nI (tw j)))), (ad 7, .inl (cI, 6, .inl (fun j => nI (ab j)))), (ad 8, .inl (cI, 8, .inl (fun j => nI (am j))))]) ⟨hx, hb, hml, hown, hts⟩ (c_S_fill l D (ad 2) (ad 3) cL (oNum to num i w) (to + i) 1 false (by omega)) ⟨callB_of 3 hts (gW wd_45) rfl rfl rfl (hts _ wd_3) (hts _ wd_42) hd_S_fill ⟨Nat.le_of_ble_eq_true rfl, Nat.le_of_ble_eq_true rfl⟩, hts _ wd_43, hts _ wd_44⟩ XT_ok (fun _ _ _ => trivial) hK hP hD hS hA 2 1 rfl rfl rfl [0] [2, 3] [0, 1, 4, 5, 6, 7, 8] [0, 1, 7, 8, 2, 3, 4, 5, 6] rfl rfl rfl rfl rfl (by decide) rfl rfl rfl hl.1 rfl (Nat.le_of_ble_eq_true rfl) d_B_buildNumber_33 ⟨Nat.zero_le _, Nat.zero_le _⟩ (st1 := []) rfl (fun H locs hP hD hS => ?_)
      refine lv_iinc (v := nI (i + 1)) (lv' := [(4, .int (nI (i + 1))), (0, .ref (ad 0)), (1, .int (nI to)), (2, .int (nI num)), (3, .int (nI wd))]) hx hb d_B_buildNumber_36 hl (k := 0) rfl (by rw [← nI_1]; rfl) (by decide) rfl (fun ls hl => ?_)
      refine lv_goto (tgt := 3) hx hb d_B_buildNumber_39 (by decide) ?_
      exact ih _ _ _ (by omega) ⟨by rw [show oNum to num (i + 1) w = oFill false (to + i) 1 (oNum to num i w) from congrArg (fun z => oFill z (to + i) 1 (oNum to num i w)) (decide_eq_false (by omega))]; exact hP, by rw [show oNum to num (i + 1) w = oFill false (to + i) 1 (oNum to num i w) from congrArg (fun z => oFill z (to + i) 1 (oNum to num i w)) (decide_eq_false (by omega))]; exact hD, hS, lv_sub hl [0, 1, 2, 3, 4] rfl⟩
    · refine lv_iconst (v := nI 1) hx hb d_B_buildNumber_28 (by decide) ?_
      refine lv_goto (tgt := 33) hx hb d_B_buildNumber_29 (by decide) ?_
      refine fn_V (ws' := (bsW ad cL cI nv nb nt nf na lv nm vw vp tw ab am (oFill true (to + i) 1 (oNum to num i w)))) (w1 := (setsW (ad 2) (ad 3) cL (oFill true (to + i) 1 (oNum to num i w)))) (wc := (setsW (ad 2) (ad 3) cL (oNum to num i w))) (wr := [(ad 0, .inr (0, [.ref (ad 2), .ref (ad 1), .ref (ad 4), .ref (ad 5), .int (nI nv), .int (nI nb), .ref (ad 6), .int (nI nt), .int (nI nf), .ref (ad 7), .int (nI na), .int (nI lv), .ref (ad 8), .int (nI nm)])), (ad 1, .inr (2, [.ref (ad 2)])), (ad 4, .inl (cI, 6, .inl (fun j => nI (vw j)))), (ad 5, .inl (cI, 6, .inl (fun j => nI (vp j)))), (ad 6, .inl (cI, 50, .inl (fun j => nI (tw j)))), (ad 7, .inl (cI, 6, .inl (fun j => nI (ab j)))), (ad 8, .inl (cI, 8, .inl (fun j => nI (am j))))]) ⟨hx, hb, hml, hown, hts⟩ (c_S_fill l D (ad 2) (ad 3) cL (oNum to num i w) (to + i) 1 true (by omega)) ⟨callB_of 3 hts (gW wd_45) rfl rfl rfl (hts _ wd_3) (hts _ wd_42) hd_S_fill ⟨Nat.le_of_ble_eq_true rfl, Nat.le_of_ble_eq_true rfl⟩, hts _ wd_43, hts _ wd_44⟩ XT_ok (fun _ _ _ => trivial) hK hP hD hS hA 2 1 rfl rfl rfl [0] [2, 3] [0, 1, 4, 5, 6, 7, 8] [0, 1, 7, 8, 2, 3, 4, 5, 6] rfl rfl rfl rfl rfl (by decide) rfl rfl rfl hl.1 rfl (Nat.le_of_ble_eq_true rfl) d_B_buildNumber_33 ⟨Nat.zero_le _, Nat.zero_le _⟩ (st1 := []) rfl (fun H locs hP hD hS => ?_)
      refine lv_iinc (v := nI (i + 1)) (lv' := [(4, .int (nI (i + 1))), (0, .ref (ad 0)), (1, .int (nI to)), (2, .int (nI num)), (3, .int (nI wd))]) hx hb d_B_buildNumber_36 hl (k := 0) rfl (by rw [← nI_1]; rfl) (by decide) rfl (fun ls hl => ?_)
      refine lv_goto (tgt := 3) hx hb d_B_buildNumber_39 (by decide) ?_
      exact ih _ _ _ (by omega) ⟨by rw [show oNum to num (i + 1) w = oFill true (to + i) 1 (oNum to num i w) from congrArg (fun z => oFill z (to + i) 1 (oNum to num i w)) (decide_eq_true (by omega))]; exact hP, by rw [show oNum to num (i + 1) w = oFill true (to + i) 1 (oNum to num i w) from congrArg (fun z => oFill z (to + i) 1 (oNum to num i w)) (decide_eq_true (by omega))]; exact hD, hS, lv_sub hl [0, 1, 2, 3, 4] rfl⟩
set_option maxHeartbeats 4000000 in
set_option maxRecDepth 100000 in
theorem c_B_buildVariable (l : Launch) (D : va_G) (ad : Nat → Nat) (cL cI : ClassId) (nv nb nt nf na lv nm : Nat) (vw vp tw ab am : Nat → Nat) (w : Nat → Int64) (hok : Bok nv nb nt nf na lv nm vw vp tw ab am) (n0 t0 : Nat) (u : ∀ i, i < 9 → n0 ≤ ad i) (to v : Nat) (h1 : to + 4 ≤ 260) (h2 : v < nv) : Fn l y_B_buildVariable (wk y_B_buildVariable b_B_buildVariable 4 none) rm_B_buildVariable D cls [(cL, .long), (cI, .int)] [.ref (ad 0), .int (nI to), .int (nI v)] (bsW ad cL cI nv nb nt nf na lv nm vw vp tw ab am w) (Zt n0 t0) none (bsW ad cL cI nv nb nt nf na lv nm vw vp tw ab am (oVar to (vp v) (vw v) w)) := by
  refine Fn.of (by decide) rfl (Nat.le_of_ble_eq_true rfl) ?_
  intro p e s m below meth c A ls hx hb hml hr hts0 hown hlocks hnm hP hK hD hS hA hAe hX hl
  have hts : ∀ w ∈ lw_ok, w.before _ s = true := fun w h => hts0 w (List.mem_cons_of_mem _ h)
  have hown : s.vm.findClass R_B = some m.cls := hown
  have hP : va_P D cls (bsW ad cL cI nv nb nt nf na lv nm vw vp tw ab am w) s.heap := hP
  have hl : lv_has ls 4 [(0, .ref (ad 0)), (1, .int (nI to)), (2, .int (nI v))] := hl
  obtain ⟨o_nv, o_nb, o_nt, o_nf, o_na, o_lv, o_nm, o_vw, o_tw, o_am, o_ab⟩ := id hok
  have hAn : ∀ q, A q → n0 ≤ q := fun q h => by rw [hAe] at h; exact Zt_AB hX u h
  have ov := o_vw v h2
  have u2 := u 2 (by decide)
  have u3 := u 3 (by decide)
  refine lv_iconst (v := nI 0) hx hb d_B_buildVariable_0 (by decide) ?_
  refine lv_istore_n (lv' := [(3, .int (nI 0)), (0, .ref (ad 0)), (1, .int (nI to)), (2, .int (nI v))]) hx hb d_B_buildVariable_1 rfl hl (by decide) rfl (fun ls hl => ?_)
  refine w_loop 2 [] (vw v) (fun i H locs ls => va_P D cls (bsW ad cL cI nv nb nt nf na lv nm vw vp tw ab am (oVar to (vp v) i w)) H ∧ va_D A (bsW ad cL cI nv nb nt nf na lv nm vw vp tw ab am (oVar to (vp v) i w)) ∧ va_S A s.heap H locs ∧ lv_has ls 4 [(3, .int (nI i)), (0, .ref (ad 0)), (1, .int (nI to)), (2, .int (nI v))]) ?_ 0 (Nat.zero_le _) _ _ ls ⟨hP, hD, hS, lv_sub hl [0, 1, 2, 3] rfl⟩
  intro i hi ih H locs ls ⟨hP, hD, hS, hl⟩
  refine lv_iload_n hx hb d_B_buildVariable_2 rfl (lv_at hl 0 rfl) ?_
  refine lv_aload_n hx hb d_B_buildVariable_3 rfl (lv_at hl 1 rfl) ?_
  refine va_get (D := D) (ci := 0) (v := .ref (ad 4)) (C := R_B) (T := F_B) (N := 14) hx hb hts in_B hown hK hP 0 rfl rfl 2 (by decide) (hts _ wd_49) (fun _ h9 => h9) rfl d_B_buildVariable_4 ?_
  refine lv_iload_n hx hb d_B_buildVariable_7 rfl (lv_at hl 3 rfl) ?_
  refine n_iald hx hb hK hP 4 1 rfl rfl (i := v) (by omega) (by omega) d_B_buildVariable_8 ?_
  refine z_icmp_ge (tgt := 36) hx hb (nI_toInt (by omega)) (nI_toInt (by omega)) d_B_buildVariable_9 (by decide) (fun c_9 => ?_) (fun c_9 => ?_)
  · obtain rfl : vw v = i := by omega
    exact fn_vret hx hb hr hlocks hAe hK hP hD hS d_B_buildVariable_36
  · refine lv_aload_n hx hb d_B_buildVariable_12 rfl (lv_at hl 1 rfl) ?_
    refine va_get (D := D) (ci := 0) (v := .ref (ad 2)) (C := R_B) (T := F_B) (N := 14) hx hb hts in_B hown hK hP 0 rfl rfl 0 (by decide) (hts _ wd_47) (fun _ h9 => h9) rfl d_B_buildVariable_13 ?_
    refine lv_iload_n hx hb d_B_buildVariable_16 rfl (lv_at hl 2 rfl) ?_
    refine lv_iload_n hx hb d_B_buildVariable_17 rfl (lv_at hl 0 rfl) ?_
    refine n_add hx hb d_B_buildVariable_18 ?_
    refine lv_aload_n hx hb d_B_buildVariable_19 rfl (lv_at hl 1 rfl) ?_
    refine va_get (D := D) (ci := 0) (v := .ref (ad 5)) (C := R_B) (T := F_B) (N := 14) hx hb hts in_B hown hK hP 0 rfl rfl 3 (by decide) (hts _ wd_50) (fun _ h9 => h9) rfl d_B_buildVariable_20 ?_
    refine lv_iload_n hx hb d_B_buildVariable_23 rfl (lv_at hl 3 rfl) ?_
    refine n_iald hx hb hK hP 5 1 rfl rfl (i := v) (by omega) (by omega) d_B_buildVariable_24 ?_
    refine lv_iload_n hx hb d_B_buildVariable_25 rfl (lv_at hl 0 rfl) ?_
    refine n_add hx hb d_B_buildVariable_26 ?_
    refine fn_V (ws' := (bsW ad cL cI nv nb nt nf na lv nm vw vp tw ab am (oPlace (to + i) ((vp v) + i) (oVar to (vp v) i w)))) (w1 := (setsW (ad 2) (ad 3) cL (oPlace (to + i) ((vp v) + i) (oVar to (vp v) i w)))) (wc := (setsW (ad 2) (ad 3) cL (oVar to (vp v) i w))) (wr := [(ad 0, .inr (0, [.ref (ad 2), .ref (ad 1), .ref (ad 4), .ref (ad 5), .int (nI nv), .int (nI nb), .ref (ad 6), .int (nI nt), .int (nI nf), .ref (ad 7), .int (nI na), .int (nI lv), .ref (ad 8), .int (nI nm)])), (ad 1, .inr (2, [.ref (ad 2)])), (ad 4, .inl (cI, 6, .inl (fun j => nI (vw j)))), (ad 5, .inl (cI, 6, .inl (fun j => nI (vp j)))), (ad 6, .inl (cI, 50, .inl (fun j => nI (tw j)))), (ad 7, .inl (cI, 6, .inl (fun j => nI (ab j)))), (ad 8, .inl (cI, 8, .inl (fun j => nI (am j))))]) ⟨hx, hb, hml, hown, hts⟩ (c_S_fillByPlace l D n0 t0 (ad 2) (ad 3) cL (oVar to (vp v) i w) (to + i) ((vp v) + i) (by omega) (by omega) (by omega) (by omega)) ⟨callB_of 2 hts (gW wd_279) rfl rfl rfl (hts _ wd_3) (hts _ wd_276) hd_S_fillByPlace ⟨Nat.le_of_ble_eq_true rfl, Nat.le_of_ble_eq_true rfl⟩, hts _ wd_277, hts _ wd_278⟩ Zt_ok (Zt_kept hX hS hAn) hK hP hD hS hA 2 1 rfl rfl rfl [0] [2, 3] [0, 1, 4, 5, 6, 7, 8] [0, 1, 7, 8, 2, 3, 4, 5, 6] rfl rfl rfl rfl rfl (by decide) rfl rfl rfl hl.1 rfl (Nat.le_of_ble_eq_true rfl) d_B_buildVariable_27 ⟨Nat.zero_le _, Nat.zero_le _⟩ (st1 := []) rfl (fun H locs hP hD hS => ?_)
    refine lv_iinc (v := nI (i + 1)) (lv' := [(3, .int (nI (i + 1))), (0, .ref (ad 0)), (1, .int (nI to)), (2, .int (nI v))]) hx hb d_B_buildVariable_30 hl (k := 0) rfl (by rw [← nI_1]; rfl) (by decide) rfl (fun ls hl => ?_)
    refine lv_goto (tgt := 2) hx hb d_B_buildVariable_33 (by decide) ?_
    exact ih _ _ _ (by omega) ⟨hP, hD, hS, lv_sub hl [0, 1, 2, 3] rfl⟩
set_option maxHeartbeats 4000000 in
set_option maxRecDepth 100000 in
theorem c_B_buildNumeric_2 (l : Launch) (D : va_G) (ad : Nat → Nat) (cL cI : ClassId) (nv nb nt nf na lv nm : Nat) (vw vp tw ab am : Nat → Nat) (w : Nat → Int64) (hok : Bok nv nb nt nf na lv nm vw vp tw ab am) (ka kb : Nat) (ha : ka < nt) (hb2 : kb < nt)  (wd : Nat) (hwd : tw nt = wd) (h1 : 1 ≤ wd) (h4 : wd ≤ 4) (hnt : nt < 50)  : Fn l y_B_buildNumeric (wk y_B_buildNumeric b_B_buildNumeric 6 none) rm_B_buildNumeric D cls [(cL, .long), (cI, .int)] [.ref (ad 0), .int (nI 2), .int (nI ka), .int (nI kb)] (bsW ad cL cI nv nb nt nf na lv nm vw vp tw ab am w) XT none (bsW ad cL cI nv nb nt nf na lv nm vw vp tw ab am (cSum (50 + nt * 4) (50 + ka * 4) (50 + kb * 4) wd w)) := by
  refine Fn.of (by decide) rfl (Nat.le_of_ble_eq_true rfl) ?_
  intro p e s m below meth c A ls hx hb hml hr hts0 hown hlocks hnm hP hK hD hS hA hAe hX hl
  have hts : ∀ w ∈ lw_ok, w.before _ s = true := fun w h => hts0 w (List.mem_cons_of_mem _ h)
  have hown : s.vm.findClass R_B = some m.cls := hown
  have hP : va_P D cls (bsW ad cL cI nv nb nt nf na lv nm vw vp tw ab am w) s.heap := hP
  have hl : lv_has ls 6 [(0, .ref (ad 0)), (1, .int (nI 2)), (2, .int (nI ka)), (3, .int (nI kb))] := hl
  obtain ⟨o_nv, o_nb, o_nt, o_nf, o_na, o_lv, o_nm, o_vw, o_tw, o_am, o_ab⟩ := id hok
  refine lv_aload_n hx hb d_B_buildNumeric_0 rfl (lv_at hl 0 rfl) ?_
  refine va_get (D := D) (ci := 0) (v := .int (nI nt)) (C := R_B) (T := F_B) (N := 14) hx hb hts in_B hown hK hP 0 rfl rfl 7 (by decide) (hts _ wd_54) (fun _ h9 => h9) rfl d_B_buildNumeric_1 ?_
  refine fn_S (ws' := (bsW ad cL cI nv nb nt nf na lv nm vw vp tw ab am w)) (w1 := (nilW)) (wc := (nilW)) (wr := [(ad 0, .inr (0, [.ref (ad 2), .ref (ad 1), .ref (ad 4), .ref (ad 5), .int (nI nv), .int (nI nb), .ref (ad 6), .int (nI nt), .int (nI nf), .ref (ad 7), .int (nI na), .int (nI lv), .ref (ad 8), .int (nI nm)])), (ad 1, .inr (2, [.ref (ad 2)])), (ad 2, .inr (1, [.ref (ad 3)])), (ad 3, .inl (cL, 4160, .inr (.inl w))), (ad 4, .inl (cI, 6, .inl (fun j => nI (vw j)))), (ad 5, .inl (cI, 6, .inl (fun j => nI (vp j)))), (ad 6, .inl (cI, 50, .inl (fun j => nI (tw j)))), (ad 7, .inl (cI, 6, .inl (fun j => nI (ab j)))), (ad 8, .inl (cI, 8, .inl (fun j => nI (am j))))]) ⟨hx, hb, hml, hown, hts⟩ (c_B_termRow l D nt) ⟨callB_of 1 hts (gW wd_267) rfl rfl rfl (hts _ wd_1) (hts _ wd_265) hd_B_termRow ⟨Nat.le_of_ble_eq_true rfl, Nat.le_of_ble_eq_true rfl⟩, hts _ wd_266⟩ XT_ok (fun _ _ _ => trivial) hK hP hD hS hA [] [] [0, 1, 2, 3, 4, 5, 6, 7, 8] [0, 1, 2, 3, 4, 5, 6, 7, 8] rfl rfl rfl rfl rfl (by decide) rfl rfl rfl hl.1 rfl (Nat.le_of_ble_eq_true rfl) d_B_buildNumeric_4 ⟨Nat.zero_le _, Nat.zero_le _⟩ (st1 := [.int (nI (50 + nt * 4))]) rfl (fun H locs hP hD hS => ?_)
  refine lv_istore (lv' := [(4, .int (nI (50 + nt * 4))), (0, .ref (ad 0)), (1, .int (nI 2)), (2, .int (nI ka)), (3, .int (nI kb))]) hx hb d_B_buildNumeric_7 hl (by decide) rfl (fun ls hl => ?_)
  refine lv_aload_n hx hb d_B_buildNumeric_9 rfl (lv_at hl 1 rfl) ?_
  refine va_get (D := D) (ci := 0) (v := .ref (ad 6)) (C := R_B) (T := F_B) (N := 14) hx hb hts in_B hown hK hP 0 rfl rfl 6 (by decide) (hts _ wd_53) (fun _ h9 => h9) rfl d_B_buildNumeric_10 ?_
  refine lv_aload_n hx hb d_B_buildNumeric_13 rfl (lv_at hl 1 rfl) ?_
  refine va_get (D := D) (ci := 0) (v := .int (nI nt)) (C := R_B) (T := F_B) (N := 14) hx hb hts in_B hown hK hP 0 rfl rfl 7 (by decide) (hts _ wd_54) (fun _ h9 => h9) rfl d_B_buildNumeric_14 ?_
  refine n_iald hx hb hK hP 6 1 rfl rfl (i := nt) (by omega) (by omega) d_B_buildNumeric_17 ?_
  rw [hwd]
  refine lv_istore (lv' := [(5, .int (nI wd)), (4, .int (nI (50 + nt * 4))), (0, .ref (ad 0)), (1, .int (nI 2)), (2, .int (nI ka)), (3, .int (nI kb))]) hx hb d_B_buildNumeric_18 hl (by decide) rfl (fun ls hl => ?_)
  refine lv_iload_n hx hb d_B_buildNumeric_20 rfl (lv_at hl 3 rfl) ?_
  refine lv_tableIn (tgt := 74) (off := 53) hx hb d_B_buildNumeric_21 (by decide +kernel) (by decide +kernel) (by decide +kernel) (by decide) ?_
  refine lv_aload_n hx hb d_B_buildNumeric_74 rfl (lv_at hl 2 rfl) ?_
  refine va_get (D := D) (ci := 0) (v := .ref (ad 1)) (C := R_B) (T := F_B) (N := 14) hx hb hts in_B hown hK hP 0 rfl rfl 1 (by decide) (hts _ wd_48) (fun _ h9 => h9) rfl d_B_buildNumeric_75 ?_
  refine lv_iload hx hb d_B_buildNumeric_78 (lv_at hl 1 rfl) ?_
  refine lv_iload_n hx hb d_B_buildNumeric_80 rfl (lv_at hl 4 rfl) ?_
  refine fn_S (ws' := (bsW ad cL cI nv nb nt nf na lv nm vw vp tw ab am w)) (w1 := (nilW)) (wc := (nilW)) (wr := [(ad 0, .inr (0, [.ref (ad 2), .ref (ad 1), .ref (ad 4), .ref (ad 5), .int (nI nv), .int (nI nb), .ref (ad 6), .int (nI nt), .int (nI nf), .ref (ad 7), .int (nI na), .int (nI lv), .ref (ad 8), .int (nI nm)])), (ad 1, .inr (2, [.ref (ad 2)])), (ad 2, .inr (1, [.ref (ad 3)])), (ad 3, .inl (cL, 4160, .inr (.inl w))), (ad 4, .inl (cI, 6, .inl (fun j => nI (vw j)))), (ad 5, .inl (cI, 6, .inl (fun j => nI (vp j)))), (ad 6, .inl (cI, 50, .inl (fun j => nI (tw j)))), (ad 7, .inl (cI, 6, .inl (fun j => nI (ab j)))), (ad 8, .inl (cI, 8, .inl (fun j => nI (am j))))]) ⟨hx, hb, hml, hown, hts⟩ (c_B_termRow l D ka) ⟨callB_of 1 hts (gW wd_267) rfl rfl rfl (hts _ wd_1) (hts _ wd_265) hd_B_termRow ⟨Nat.le_of_ble_eq_true rfl, Nat.le_of_ble_eq_true rfl⟩, hts _ wd_266⟩ XT_ok (fun _ _ _ => trivial) hK hP hD hS hA [] [] [0, 1, 2, 3, 4, 5, 6, 7, 8] [0, 1, 2, 3, 4, 5, 6, 7, 8] rfl rfl rfl rfl rfl (by decide) rfl rfl rfl hl.1 rfl (Nat.le_of_ble_eq_true rfl) d_B_buildNumeric_81 ⟨Nat.zero_le _, Nat.zero_le _⟩ (st1 := [.int (nI (50 + ka * 4)), .int (nI (50 + nt * 4)), .ref (ad 1)]) rfl (fun H locs hP hD hS => ?_)
  refine lv_iload_n hx hb d_B_buildNumeric_84 rfl (lv_at hl 5 rfl) ?_
  refine fn_S (ws' := (bsW ad cL cI nv nb nt nf na lv nm vw vp tw ab am w)) (w1 := (nilW)) (wc := (nilW)) (wr := [(ad 0, .inr (0, [.ref (ad 2), .ref (ad 1), .ref (ad 4), .ref (ad 5), .int (nI nv), .int (nI nb), .ref (ad 6), .int (nI nt), .int (nI nf), .ref (ad 7), .int (nI na), .int (nI lv), .ref (ad 8), .int (nI nm)])), (ad 1, .inr (2, [.ref (ad 2)])), (ad 2, .inr (1, [.ref (ad 3)])), (ad 3, .inl (cL, 4160, .inr (.inl w))), (ad 4, .inl (cI, 6, .inl (fun j => nI (vw j)))), (ad 5, .inl (cI, 6, .inl (fun j => nI (vp j)))), (ad 6, .inl (cI, 50, .inl (fun j => nI (tw j)))), (ad 7, .inl (cI, 6, .inl (fun j => nI (ab j)))), (ad 8, .inl (cI, 8, .inl (fun j => nI (am j))))]) ⟨hx, hb, hml, hown, hts⟩ (c_B_termRow l D kb) ⟨callB_of 1 hts (gW wd_267) rfl rfl rfl (hts _ wd_1) (hts _ wd_265) hd_B_termRow ⟨Nat.le_of_ble_eq_true rfl, Nat.le_of_ble_eq_true rfl⟩, hts _ wd_266⟩ XT_ok (fun _ _ _ => trivial) hK hP hD hS hA [] [] [0, 1, 2, 3, 4, 5, 6, 7, 8] [0, 1, 2, 3, 4, 5, 6, 7, 8] rfl rfl rfl rfl rfl (by decide) rfl rfl rfl hl.1 rfl (Nat.le_of_ble_eq_true rfl) d_B_buildNumeric_85 ⟨Nat.zero_le _, Nat.zero_le _⟩ (st1 := [.int (nI (50 + kb * 4)), .int (nI (50 + ka * 4)), .int (nI (50 + nt * 4)), .ref (ad 1)]) rfl (fun H locs hP hD hS => ?_)
  refine lv_iload hx hb d_B_buildNumeric_88 (lv_at hl 0 rfl) ?_
  refine fn_V (ws' := (bsW ad cL cI nv nb nt nf na lv nm vw vp tw ab am (cSum (50 + nt * 4) (50 + ka * 4) (50 + kb * 4) wd w))) (w1 := (circW (ad 1) (ad 2) (ad 3) cL (cSum (50 + nt * 4) (50 + ka * 4) (50 + kb * 4) wd w))) (wc := (circW (ad 1) (ad 2) (ad 3) cL w)) (wr := [(ad 0, .inr (0, [.ref (ad 2), .ref (ad 1), .ref (ad 4), .ref (ad 5), .int (nI nv), .int (nI nb), .ref (ad 6), .int (nI nt), .int (nI nf), .ref (ad 7), .int (nI na), .int (nI lv), .ref (ad 8), .int (nI nm)])), (ad 4, .inl (cI, 6, .inl (fun j => nI (vw j)))), (ad 5, .inl (cI, 6, .inl (fun j => nI (vp j)))), (ad 6, .inl (cI, 50, .inl (fun j => nI (tw j)))), (ad 7, .inl (cI, 6, .inl (fun j => nI (ab j)))), (ad 8, .inl (cI, 8, .inl (fun j => nI (am j))))]) ⟨hx, hb, hml, hown, hts⟩ (c_C_sum l D (ad 1) (ad 2) (ad 3) cL w (50 + nt * 4) (50 + ka * 4) (50 + kb * 4) wd (by omega) (by omega) (by omega)) ⟨callB_of 4 hts (gW wd_288) rfl rfl rfl (hts _ wd_2) (hts _ wd_285) hd_C_sum ⟨Nat.le_of_ble_eq_true rfl, Nat.le_of_ble_eq_true rfl⟩, hts _ wd_286, hts _ wd_287⟩ XT_ok (fun _ _ _ => trivial) hK hP hD hS hA 1 2 rfl rfl rfl [0] [1, 2, 3] [0, 4, 5, 6, 7, 8] [0, 6, 7, 8, 1, 2, 3, 4, 5] rfl rfl rfl rfl rfl (by decide) rfl rfl rfl hl.1 rfl (Nat.le_of_ble_eq_true rfl) d_B_buildNumeric_90 ⟨Nat.zero_le _, Nat.zero_le _⟩ (st1 := []) rfl (fun H locs hP hD hS => ?_)
  refine lv_goto (tgt := 137) hx hb d_B_buildNumeric_93 (by decide) ?_
  exact fn_vret hx hb hr hlocks hAe hK hP hD hS d_B_buildNumeric_137
set_option maxHeartbeats 4000000 in
set_option maxRecDepth 100000 in
theorem c_B_buildNumeric_3 (l : Launch) (D : va_G) (ad : Nat → Nat) (cL cI : ClassId) (nv nb nt nf na lv nm : Nat) (vw vp tw ab am : Nat → Nat) (w : Nat → Int64) (hok : Bok nv nb nt nf na lv nm vw vp tw ab am) (ka kb : Nat) (ha : ka < nt) (hb2 : kb < nt)  (wd : Nat) (hwd : tw nt = wd) (h1 : 1 ≤ wd) (h4 : wd ≤ 4) (hnt : nt < 50)  : Fn l y_B_buildNumeric (wk y_B_buildNumeric b_B_buildNumeric 6 none) rm_B_buildNumeric D cls [(cL, .long), (cI, .int)] [.ref (ad 0), .int (nI 3), .int (nI ka), .int (nI kb)] (bsW ad cL cI nv nb nt nf na lv nm vw vp tw ab am w) XT none (bsW ad cL cI nv nb nt nf na lv nm vw vp tw ab am (cDiff (50 + nt * 4) (50 + ka * 4) (50 + kb * 4) wd w)) := by
  refine Fn.of (by decide) rfl (Nat.le_of_ble_eq_true rfl) ?_
  intro p e s m below meth c A ls hx hb hml hr hts0 hown hlocks hnm hP hK hD hS hA hAe hX hl
  have hts : ∀ w ∈ lw_ok, w.before _ s = true := fun w h => hts0 w (List.mem_cons_of_mem _ h)
  have hown : s.vm.findClass R_B = some m.cls := hown
  have hP : va_P D cls (bsW ad cL cI nv nb nt nf na lv nm vw vp tw ab am w) s.heap := hP
  have hl : lv_has ls 6 [(0, .ref (ad 0)), (1, .int (nI 3)), (2, .int (nI ka)), (3, .int (nI kb))] := hl
  obtain ⟨o_nv, o_nb, o_nt, o_nf, o_na, o_lv, o_nm, o_vw, o_tw, o_am, o_ab⟩ := id hok
  refine lv_aload_n hx hb d_B_buildNumeric_0 rfl (lv_at hl 0 rfl) ?_
  refine va_get (D := D) (ci := 0) (v := .int (nI nt)) (C := R_B) (T := F_B) (N := 14) hx hb hts in_B hown hK hP 0 rfl rfl 7 (by decide) (hts _ wd_54) (fun _ h9 => h9) rfl d_B_buildNumeric_1 ?_
  refine fn_S (ws' := (bsW ad cL cI nv nb nt nf na lv nm vw vp tw ab am w)) (w1 := (nilW)) (wc := (nilW)) (wr := [(ad 0, .inr (0, [.ref (ad 2), .ref (ad 1), .ref (ad 4), .ref (ad 5), .int (nI nv), .int (nI nb), .ref (ad 6), .int (nI nt), .int (nI nf), .ref (ad 7), .int (nI na), .int (nI lv), .ref (ad 8), .int (nI nm)])), (ad 1, .inr (2, [.ref (ad 2)])), (ad 2, .inr (1, [.ref (ad 3)])), (ad 3, .inl (cL, 4160, .inr (.inl w))), (ad 4, .inl (cI, 6, .inl (fun j => nI (vw j)))), (ad 5, .inl (cI, 6, .inl (fun j => nI (vp j)))), (ad 6, .inl (cI, 50, .inl (fun j => nI (tw j)))), (ad 7, .inl (cI, 6, .inl (fun j => nI (ab j)))), (ad 8, .inl (cI, 8, .inl (fun j => nI (am j))))]) ⟨hx, hb, hml, hown, hts⟩ (c_B_termRow l D nt) ⟨callB_of 1 hts (gW wd_267) rfl rfl rfl (hts _ wd_1) (hts _ wd_265) hd_B_termRow ⟨Nat.le_of_ble_eq_true rfl, Nat.le_of_ble_eq_true rfl⟩, hts _ wd_266⟩ XT_ok (fun _ _ _ => trivial) hK hP hD hS hA [] [] [0, 1, 2, 3, 4, 5, 6, 7, 8] [0, 1, 2, 3, 4, 5, 6, 7, 8] rfl rfl rfl rfl rfl (by decide) rfl rfl rfl hl.1 rfl (Nat.le_of_ble_eq_true rfl) d_B_buildNumeric_4 ⟨Nat.zero_le _, Nat.zero_le _⟩ (st1 := [.int (nI (50 + nt * 4))]) rfl (fun H locs hP hD hS => ?_)
  refine lv_istore (lv' := [(4, .int (nI (50 + nt * 4))), (0, .ref (ad 0)), (1, .int (nI 3)), (2, .int (nI ka)), (3, .int (nI kb))]) hx hb d_B_buildNumeric_7 hl (by decide) rfl (fun ls hl => ?_)
  refine lv_aload_n hx hb d_B_buildNumeric_9 rfl (lv_at hl 1 rfl) ?_
  refine va_get (D := D) (ci := 0) (v := .ref (ad 6)) (C := R_B) (T := F_B) (N := 14) hx hb hts in_B hown hK hP 0 rfl rfl 6 (by decide) (hts _ wd_53) (fun _ h9 => h9) rfl d_B_buildNumeric_10 ?_
  refine lv_aload_n hx hb d_B_buildNumeric_13 rfl (lv_at hl 1 rfl) ?_
  refine va_get (D := D) (ci := 0) (v := .int (nI nt)) (C := R_B) (T := F_B) (N := 14) hx hb hts in_B hown hK hP 0 rfl rfl 7 (by decide) (hts _ wd_54) (fun _ h9 => h9) rfl d_B_buildNumeric_14 ?_
  refine n_iald hx hb hK hP 6 1 rfl rfl (i := nt) (by omega) (by omega) d_B_buildNumeric_17 ?_
  rw [hwd]
  refine lv_istore (lv' := [(5, .int (nI wd)), (4, .int (nI (50 + nt * 4))), (0, .ref (ad 0)), (1, .int (nI 3)), (2, .int (nI ka)), (3, .int (nI kb))]) hx hb d_B_buildNumeric_18 hl (by decide) rfl (fun ls hl => ?_)
  refine lv_iload_n hx hb d_B_buildNumeric_20 rfl (lv_at hl 3 rfl) ?_
  refine lv_tableIn (tgt := 96) (off := 75) hx hb d_B_buildNumeric_21 (by decide +kernel) (by decide +kernel) (by decide +kernel) (by decide) ?_
  refine lv_aload_n hx hb d_B_buildNumeric_96 rfl (lv_at hl 2 rfl) ?_
  refine va_get (D := D) (ci := 0) (v := .ref (ad 1)) (C := R_B) (T := F_B) (N := 14) hx hb hts in_B hown hK hP 0 rfl rfl 1 (by decide) (hts _ wd_48) (fun _ h9 => h9) rfl d_B_buildNumeric_97 ?_
  refine lv_iload hx hb d_B_buildNumeric_100 (lv_at hl 1 rfl) ?_
  refine lv_iload_n hx hb d_B_buildNumeric_102 rfl (lv_at hl 4 rfl) ?_
  refine fn_S (ws' := (bsW ad cL cI nv nb nt nf na lv nm vw vp tw ab am w)) (w1 := (nilW)) (wc := (nilW)) (wr := [(ad 0, .inr (0, [.ref (ad 2), .ref (ad 1), .ref (ad 4), .ref (ad 5), .int (nI nv), .int (nI nb), .ref (ad 6), .int (nI nt), .int (nI nf), .ref (ad 7), .int (nI na), .int (nI lv), .ref (ad 8), .int (nI nm)])), (ad 1, .inr (2, [.ref (ad 2)])), (ad 2, .inr (1, [.ref (ad 3)])), (ad 3, .inl (cL, 4160, .inr (.inl w))), (ad 4, .inl (cI, 6, .inl (fun j => nI (vw j)))), (ad 5, .inl (cI, 6, .inl (fun j => nI (vp j)))), (ad 6, .inl (cI, 50, .inl (fun j => nI (tw j)))), (ad 7, .inl (cI, 6, .inl (fun j => nI (ab j)))), (ad 8, .inl (cI, 8, .inl (fun j => nI (am j))))]) ⟨hx, hb, hml, hown, hts⟩ (c_B_termRow l D ka) ⟨callB_of 1 hts (gW wd_267) rfl rfl rfl (hts _ wd_1) (hts _ wd_265) hd_B_termRow ⟨Nat.le_of_ble_eq_true rfl, Nat.le_of_ble_eq_true rfl⟩, hts _ wd_266⟩ XT_ok (fun _ _ _ => trivial) hK hP hD hS hA [] [] [0, 1, 2, 3, 4, 5, 6, 7, 8] [0, 1, 2, 3, 4, 5, 6, 7, 8] rfl rfl rfl rfl rfl (by decide) rfl rfl rfl hl.1 rfl (Nat.le_of_ble_eq_true rfl) d_B_buildNumeric_103 ⟨Nat.zero_le _, Nat.zero_le _⟩ (st1 := [.int (nI (50 + ka * 4)), .int (nI (50 + nt * 4)), .ref (ad 1)]) rfl (fun H locs hP hD hS => ?_)
  refine lv_iload_n hx hb d_B_buildNumeric_106 rfl (lv_at hl 5 rfl) ?_
  refine fn_S (ws' := (bsW ad cL cI nv nb nt nf na lv nm vw vp tw ab am w)) (w1 := (nilW)) (wc := (nilW)) (wr := [(ad 0, .inr (0, [.ref (ad 2), .ref (ad 1), .ref (ad 4), .ref (ad 5), .int (nI nv), .int (nI nb), .ref (ad 6), .int (nI nt), .int (nI nf), .ref (ad 7), .int (nI na), .int (nI lv), .ref (ad 8), .int (nI nm)])), (ad 1, .inr (2, [.ref (ad 2)])), (ad 2, .inr (1, [.ref (ad 3)])), (ad 3, .inl (cL, 4160, .inr (.inl w))), (ad 4, .inl (cI, 6, .inl (fun j => nI (vw j)))), (ad 5, .inl (cI, 6, .inl (fun j => nI (vp j)))), (ad 6, .inl (cI, 50, .inl (fun j => nI (tw j)))), (ad 7, .inl (cI, 6, .inl (fun j => nI (ab j)))), (ad 8, .inl (cI, 8, .inl (fun j => nI (am j))))]) ⟨hx, hb, hml, hown, hts⟩ (c_B_termRow l D kb) ⟨callB_of 1 hts (gW wd_267) rfl rfl rfl (hts _ wd_1) (hts _ wd_265) hd_B_termRow ⟨Nat.le_of_ble_eq_true rfl, Nat.le_of_ble_eq_true rfl⟩, hts _ wd_266⟩ XT_ok (fun _ _ _ => trivial) hK hP hD hS hA [] [] [0, 1, 2, 3, 4, 5, 6, 7, 8] [0, 1, 2, 3, 4, 5, 6, 7, 8] rfl rfl rfl rfl rfl (by decide) rfl rfl rfl hl.1 rfl (Nat.le_of_ble_eq_true rfl) d_B_buildNumeric_107 ⟨Nat.zero_le _, Nat.zero_le _⟩ (st1 := [.int (nI (50 + kb * 4)), .int (nI (50 + ka * 4)), .int (nI (50 + nt * 4)), .ref (ad 1)]) rfl (fun H locs hP hD hS => ?_)
  refine lv_iload hx hb d_B_buildNumeric_110 (lv_at hl 0 rfl) ?_
  refine fn_V (ws' := (bsW ad cL cI nv nb nt nf na lv nm vw vp tw ab am (cDiff (50 + nt * 4) (50 + ka * 4) (50 + kb * 4) wd w))) (w1 := (circW (ad 1) (ad 2) (ad 3) cL (cDiff (50 + nt * 4) (50 + ka * 4) (50 + kb * 4) wd w))) (wc := (circW (ad 1) (ad 2) (ad 3) cL w)) (wr := [(ad 0, .inr (0, [.ref (ad 2), .ref (ad 1), .ref (ad 4), .ref (ad 5), .int (nI nv), .int (nI nb), .ref (ad 6), .int (nI nt), .int (nI nf), .ref (ad 7), .int (nI na), .int (nI lv), .ref (ad 8), .int (nI nm)])), (ad 4, .inl (cI, 6, .inl (fun j => nI (vw j)))), (ad 5, .inl (cI, 6, .inl (fun j => nI (vp j)))), (ad 6, .inl (cI, 50, .inl (fun j => nI (tw j)))), (ad 7, .inl (cI, 6, .inl (fun j => nI (ab j)))), (ad 8, .inl (cI, 8, .inl (fun j => nI (am j))))]) ⟨hx, hb, hml, hown, hts⟩ (c_C_difference l D (ad 1) (ad 2) (ad 3) cL w (50 + nt * 4) (50 + ka * 4) (50 + kb * 4) wd (by omega) (by omega) (by omega)) ⟨callB_of 4 hts (gW wd_306) rfl rfl rfl (hts _ wd_2) (hts _ wd_303) hd_C_difference ⟨Nat.le_of_ble_eq_true rfl, Nat.le_of_ble_eq_true rfl⟩, hts _ wd_304, hts _ wd_305⟩ XT_ok (fun _ _ _ => trivial) hK hP hD hS hA 1 2 rfl rfl rfl [0] [1, 2, 3] [0, 4, 5, 6, 7, 8] [0, 6, 7, 8, 1, 2, 3, 4, 5] rfl rfl rfl rfl rfl (by decide) rfl rfl rfl hl.1 rfl (Nat.le_of_ble_eq_true rfl) d_B_buildNumeric_112 ⟨Nat.zero_le _, Nat.zero_le _⟩ (st1 := []) rfl (fun H locs hP hD hS => ?_)
  refine lv_goto (tgt := 137) hx hb d_B_buildNumeric_115 (by decide) ?_
  exact fn_vret hx hb hr hlocks hAe hK hP hD hS d_B_buildNumeric_137
set_option maxHeartbeats 4000000 in
set_option maxRecDepth 100000 in
theorem c_B_buildNumeric_4 (l : Launch) (D : va_G) (ad : Nat → Nat) (cL cI : ClassId) (nv nb nt nf na lv nm : Nat) (vw vp tw ab am : Nat → Nat) (w : Nat → Int64) (hok : Bok nv nb nt nf na lv nm vw vp tw ab am) (ka kb : Nat) (ha : ka < nt) (hb2 : kb < nt)  (wd : Nat) (hwd : tw nt = wd) (h1 : 1 ≤ wd) (h4 : wd ≤ 4) (hnt : nt < 50)  : Fn l y_B_buildNumeric (wk y_B_buildNumeric b_B_buildNumeric 6 none) rm_B_buildNumeric D cls [(cL, .long), (cI, .int)] [.ref (ad 0), .int (nI 4), .int (nI ka), .int (nI kb)] (bsW ad cL cI nv nb nt nf na lv nm vw vp tw ab am w) XT none (bsW ad cL cI nv nb nt nf na lv nm vw vp tw ab am (cProd (50 + nt * 4) (50 + ka * 4) (50 + kb * 4) wd w)) := by
  refine Fn.of (by decide) rfl (Nat.le_of_ble_eq_true rfl) ?_
  intro p e s m below meth c A ls hx hb hml hr hts0 hown hlocks hnm hP hK hD hS hA hAe hX hl
  have hts : ∀ w ∈ lw_ok, w.before _ s = true := fun w h => hts0 w (List.mem_cons_of_mem _ h)
  have hown : s.vm.findClass R_B = some m.cls := hown
  have hP : va_P D cls (bsW ad cL cI nv nb nt nf na lv nm vw vp tw ab am w) s.heap := hP
  have hl : lv_has ls 6 [(0, .ref (ad 0)), (1, .int (nI 4)), (2, .int (nI ka)), (3, .int (nI kb))] := hl
  obtain ⟨o_nv, o_nb, o_nt, o_nf, o_na, o_lv, o_nm, o_vw, o_tw, o_am, o_ab⟩ := id hok
  refine lv_aload_n hx hb d_B_buildNumeric_0 rfl (lv_at hl 0 rfl) ?_
  refine va_get (D := D) (ci := 0) (v := .int (nI nt)) (C := R_B) (T := F_B) (N := 14) hx hb hts in_B hown hK hP 0 rfl rfl 7 (by decide) (hts _ wd_54) (fun _ h9 => h9) rfl d_B_buildNumeric_1 ?_
  refine fn_S (ws' := (bsW ad cL cI nv nb nt nf na lv nm vw vp tw ab am w)) (w1 := (nilW)) (wc := (nilW)) (wr := [(ad 0, .inr (0, [.ref (ad 2), .ref (ad 1), .ref (ad 4), .ref (ad 5), .int (nI nv), .int (nI nb), .ref (ad 6), .int (nI nt), .int (nI nf), .ref (ad 7), .int (nI na), .int (nI lv), .ref (ad 8), .int (nI nm)])), (ad 1, .inr (2, [.ref (ad 2)])), (ad 2, .inr (1, [.ref (ad 3)])), (ad 3, .inl (cL, 4160, .inr (.inl w))), (ad 4, .inl (cI, 6, .inl (fun j => nI (vw j)))), (ad 5, .inl (cI, 6, .inl (fun j => nI (vp j)))), (ad 6, .inl (cI, 50, .inl (fun j => nI (tw j)))), (ad 7, .inl (cI, 6, .inl (fun j => nI (ab j)))), (ad 8, .inl (cI, 8, .inl (fun j => nI (am j))))]) ⟨hx, hb, hml, hown, hts⟩ (c_B_termRow l D nt) ⟨callB_of 1 hts (gW wd_267) rfl rfl rfl (hts _ wd_1) (hts _ wd_265) hd_B_termRow ⟨Nat.le_of_ble_eq_true rfl, Nat.le_of_ble_eq_true rfl⟩, hts _ wd_266⟩ XT_ok (fun _ _ _ => trivial) hK hP hD hS hA [] [] [0, 1, 2, 3, 4, 5, 6, 7, 8] [0, 1, 2, 3, 4, 5, 6, 7, 8] rfl rfl rfl rfl rfl (by decide) rfl rfl rfl hl.1 rfl (Nat.le_of_ble_eq_true rfl) d_B_buildNumeric_4 ⟨Nat.zero_le _, Nat.zero_le _⟩ (st1 := [.int (nI (50 + nt * 4))]) rfl (fun H locs hP hD hS => ?_)
  refine lv_istore (lv' := [(4, .int (nI (50 + nt * 4))), (0, .ref (ad 0)), (1, .int (nI 4)), (2, .int (nI ka)), (3, .int (nI kb))]) hx hb d_B_buildNumeric_7 hl (by decide) rfl (fun ls hl => ?_)
  refine lv_aload_n hx hb d_B_buildNumeric_9 rfl (lv_at hl 1 rfl) ?_
  refine va_get (D := D) (ci := 0) (v := .ref (ad 6)) (C := R_B) (T := F_B) (N := 14) hx hb hts in_B hown hK hP 0 rfl rfl 6 (by decide) (hts _ wd_53) (fun _ h9 => h9) rfl d_B_buildNumeric_10 ?_
  refine lv_aload_n hx hb d_B_buildNumeric_13 rfl (lv_at hl 1 rfl) ?_
  refine va_get (D := D) (ci := 0) (v := .int (nI nt)) (C := R_B) (T := F_B) (N := 14) hx hb hts in_B hown hK hP 0 rfl rfl 7 (by decide) (hts _ wd_54) (fun _ h9 => h9) rfl d_B_buildNumeric_14 ?_
  refine n_iald hx hb hK hP 6 1 rfl rfl (i := nt) (by omega) (by omega) d_B_buildNumeric_17 ?_
  rw [hwd]
  refine lv_istore (lv' := [(5, .int (nI wd)), (4, .int (nI (50 + nt * 4))), (0, .ref (ad 0)), (1, .int (nI 4)), (2, .int (nI ka)), (3, .int (nI kb))]) hx hb d_B_buildNumeric_18 hl (by decide) rfl (fun ls hl => ?_)
  refine lv_iload_n hx hb d_B_buildNumeric_20 rfl (lv_at hl 3 rfl) ?_
  refine lv_tableOut (tgt := 118) hx hb d_B_buildNumeric_21 (by decide +kernel) (by decide) ?_
  refine lv_aload_n hx hb d_B_buildNumeric_118 rfl (lv_at hl 2 rfl) ?_
  refine va_get (D := D) (ci := 0) (v := .ref (ad 1)) (C := R_B) (T := F_B) (N := 14) hx hb hts in_B hown hK hP 0 rfl rfl 1 (by decide) (hts _ wd_48) (fun _ h9 => h9) rfl d_B_buildNumeric_119 ?_
  refine lv_iload hx hb d_B_buildNumeric_122 (lv_at hl 1 rfl) ?_
  refine lv_iload_n hx hb d_B_buildNumeric_124 rfl (lv_at hl 4 rfl) ?_
  refine fn_S (ws' := (bsW ad cL cI nv nb nt nf na lv nm vw vp tw ab am w)) (w1 := (nilW)) (wc := (nilW)) (wr := [(ad 0, .inr (0, [.ref (ad 2), .ref (ad 1), .ref (ad 4), .ref (ad 5), .int (nI nv), .int (nI nb), .ref (ad 6), .int (nI nt), .int (nI nf), .ref (ad 7), .int (nI na), .int (nI lv), .ref (ad 8), .int (nI nm)])), (ad 1, .inr (2, [.ref (ad 2)])), (ad 2, .inr (1, [.ref (ad 3)])), (ad 3, .inl (cL, 4160, .inr (.inl w))), (ad 4, .inl (cI, 6, .inl (fun j => nI (vw j)))), (ad 5, .inl (cI, 6, .inl (fun j => nI (vp j)))), (ad 6, .inl (cI, 50, .inl (fun j => nI (tw j)))), (ad 7, .inl (cI, 6, .inl (fun j => nI (ab j)))), (ad 8, .inl (cI, 8, .inl (fun j => nI (am j))))]) ⟨hx, hb, hml, hown, hts⟩ (c_B_termRow l D ka) ⟨callB_of 1 hts (gW wd_267) rfl rfl rfl (hts _ wd_1) (hts _ wd_265) hd_B_termRow ⟨Nat.le_of_ble_eq_true rfl, Nat.le_of_ble_eq_true rfl⟩, hts _ wd_266⟩ XT_ok (fun _ _ _ => trivial) hK hP hD hS hA [] [] [0, 1, 2, 3, 4, 5, 6, 7, 8] [0, 1, 2, 3, 4, 5, 6, 7, 8] rfl rfl rfl rfl rfl (by decide) rfl rfl rfl hl.1 rfl (Nat.le_of_ble_eq_true rfl) d_B_buildNumeric_125 ⟨Nat.zero_le _, Nat.zero_le _⟩ (st1 := [.int (nI (50 + ka * 4)), .int (nI (50 + nt * 4)), .ref (ad 1)]) rfl (fun H locs hP hD hS => ?_)
  refine lv_iload_n hx hb d_B_buildNumeric_128 rfl (lv_at hl 5 rfl) ?_
  refine fn_S (ws' := (bsW ad cL cI nv nb nt nf na lv nm vw vp tw ab am w)) (w1 := (nilW)) (wc := (nilW)) (wr := [(ad 0, .inr (0, [.ref (ad 2), .ref (ad 1), .ref (ad 4), .ref (ad 5), .int (nI nv), .int (nI nb), .ref (ad 6), .int (nI nt), .int (nI nf), .ref (ad 7), .int (nI na), .int (nI lv), .ref (ad 8), .int (nI nm)])), (ad 1, .inr (2, [.ref (ad 2)])), (ad 2, .inr (1, [.ref (ad 3)])), (ad 3, .inl (cL, 4160, .inr (.inl w))), (ad 4, .inl (cI, 6, .inl (fun j => nI (vw j)))), (ad 5, .inl (cI, 6, .inl (fun j => nI (vp j)))), (ad 6, .inl (cI, 50, .inl (fun j => nI (tw j)))), (ad 7, .inl (cI, 6, .inl (fun j => nI (ab j)))), (ad 8, .inl (cI, 8, .inl (fun j => nI (am j))))]) ⟨hx, hb, hml, hown, hts⟩ (c_B_termRow l D kb) ⟨callB_of 1 hts (gW wd_267) rfl rfl rfl (hts _ wd_1) (hts _ wd_265) hd_B_termRow ⟨Nat.le_of_ble_eq_true rfl, Nat.le_of_ble_eq_true rfl⟩, hts _ wd_266⟩ XT_ok (fun _ _ _ => trivial) hK hP hD hS hA [] [] [0, 1, 2, 3, 4, 5, 6, 7, 8] [0, 1, 2, 3, 4, 5, 6, 7, 8] rfl rfl rfl rfl rfl (by decide) rfl rfl rfl hl.1 rfl (Nat.le_of_ble_eq_true rfl) d_B_buildNumeric_129 ⟨Nat.zero_le _, Nat.zero_le _⟩ (st1 := [.int (nI (50 + kb * 4)), .int (nI (50 + ka * 4)), .int (nI (50 + nt * 4)), .ref (ad 1)]) rfl (fun H locs hP hD hS => ?_)
  refine lv_iload hx hb d_B_buildNumeric_132 (lv_at hl 0 rfl) ?_
  refine fn_V (ws' := (bsW ad cL cI nv nb nt nf na lv nm vw vp tw ab am (cProd (50 + nt * 4) (50 + ka * 4) (50 + kb * 4) wd w))) (w1 := (circW (ad 1) (ad 2) (ad 3) cL (cProd (50 + nt * 4) (50 + ka * 4) (50 + kb * 4) wd w))) (wc := (circW (ad 1) (ad 2) (ad 3) cL w)) (wr := [(ad 0, .inr (0, [.ref (ad 2), .ref (ad 1), .ref (ad 4), .ref (ad 5), .int (nI nv), .int (nI nb), .ref (ad 6), .int (nI nt), .int (nI nf), .ref (ad 7), .int (nI na), .int (nI lv), .ref (ad 8), .int (nI nm)])), (ad 4, .inl (cI, 6, .inl (fun j => nI (vw j)))), (ad 5, .inl (cI, 6, .inl (fun j => nI (vp j)))), (ad 6, .inl (cI, 50, .inl (fun j => nI (tw j)))), (ad 7, .inl (cI, 6, .inl (fun j => nI (ab j)))), (ad 8, .inl (cI, 8, .inl (fun j => nI (am j))))]) ⟨hx, hb, hml, hown, hts⟩ (c_C_product l D (ad 1) (ad 2) (ad 3) cL w (50 + nt * 4) (50 + ka * 4) (50 + kb * 4) wd (by omega) (by omega) (by omega)) ⟨callB_of 4 hts (gW wd_314) rfl rfl rfl (hts _ wd_2) (hts _ wd_311) hd_C_product ⟨Nat.le_of_ble_eq_true rfl, Nat.le_of_ble_eq_true rfl⟩, hts _ wd_312, hts _ wd_313⟩ XT_ok (fun _ _ _ => trivial) hK hP hD hS hA 1 2 rfl rfl rfl [0] [1, 2, 3] [0, 4, 5, 6, 7, 8] [0, 6, 7, 8, 1, 2, 3, 4, 5] rfl rfl rfl rfl rfl (by decide) rfl rfl rfl hl.1 rfl (Nat.le_of_ble_eq_true rfl) d_B_buildNumeric_134 ⟨Nat.zero_le _, Nat.zero_le _⟩ (st1 := []) rfl (fun H locs hP hD hS => ?_)
  exact fn_vret hx hb hr hlocks hAe hK hP hD hS d_B_buildNumeric_137
set_option maxHeartbeats 4000000 in
set_option maxRecDepth 100000 in
theorem c_B_buildNumeric_0 (l : Launch) (D : va_G) (ad : Nat → Nat) (cL cI : ClassId) (nv nb nt nf na lv nm : Nat) (vw vp tw ab am : Nat → Nat) (w : Nat → Int64) (hok : Bok nv nb nt nf na lv nm vw vp tw ab am) (ka : Nat) (kb : Int32) (ha : ka < 2 ^ 31) (wd : Nat) (hwd : tw nt = wd) (h1 : 1 ≤ wd) (h4 : wd ≤ 4) (hnt : nt < 50)  : Fn l y_B_buildNumeric (wk y_B_buildNumeric b_B_buildNumeric 6 none) rm_B_buildNumeric D cls [(cL, .long), (cI, .int)] [.ref (ad 0), .int (nI 0), .int (nI ka), .int kb] (bsW ad cL cI nv nb nt nf na lv nm vw vp tw ab am w) XT none (bsW ad cL cI nv nb nt nf na lv nm vw vp tw ab am (oNum (50 + nt * 4) ka wd w)) := by
  refine Fn.of (by decide) rfl (Nat.le_of_ble_eq_true rfl) ?_
  intro p e s m below meth c A ls hx hb hml hr hts0 hown hlocks hnm hP hK hD hS hA hAe hX hl
  have hts : ∀ w ∈ lw_ok, w.before _ s = true := fun w h => hts0 w (List.mem_cons_of_mem _ h)
  have hown : s.vm.findClass R_B = some m.cls := hown
  have hP : va_P D cls (bsW ad cL cI nv nb nt nf na lv nm vw vp tw ab am w) s.heap := hP
  have hl : lv_has ls 6 [(0, .ref (ad 0)), (1, .int (nI 0)), (2, .int (nI ka)), (3, .int kb)] := hl
  obtain ⟨o_nv, o_nb, o_nt, o_nf, o_na, o_lv, o_nm, o_vw, o_tw, o_am, o_ab⟩ := id hok
  refine lv_aload_n hx hb d_B_buildNumeric_0 rfl (lv_at hl 0 rfl) ?_
  refine va_get (D := D) (ci := 0) (v := .int (nI nt)) (C := R_B) (T := F_B) (N := 14) hx hb hts in_B hown hK hP 0 rfl rfl 7 (by decide) (hts _ wd_54) (fun _ h9 => h9) rfl d_B_buildNumeric_1 ?_
  refine fn_S (ws' := (bsW ad cL cI nv nb nt nf na lv nm vw vp tw ab am w)) (w1 := (nilW)) (wc := (nilW)) (wr := [(ad 0, .inr (0, [.ref (ad 2), .ref (ad 1), .ref (ad 4), .ref (ad 5), .int (nI nv), .int (nI nb), .ref (ad 6), .int (nI nt), .int (nI nf), .ref (ad 7), .int (nI na), .int (nI lv), .ref (ad 8), .int (nI nm)])), (ad 1, .inr (2, [.ref (ad 2)])), (ad 2, .inr (1, [.ref (ad 3)])), (ad 3, .inl (cL, 4160, .inr (.inl w))), (ad 4, .inl (cI, 6, .inl (fun j => nI (vw j)))), (ad 5, .inl (cI, 6, .inl (fun j => nI (vp j)))), (ad 6, .inl (cI, 50, .inl (fun j => nI (tw j)))), (ad 7, .inl (cI, 6, .inl (fun j => nI (ab j)))), (ad 8, .inl (cI, 8, .inl (fun j => nI (am j))))]) ⟨hx, hb, hml, hown, hts⟩ (c_B_termRow l D nt) ⟨callB_of 1 hts (gW wd_267) rfl rfl rfl (hts _ wd_1) (hts _ wd_265) hd_B_termRow ⟨Nat.le_of_ble_eq_true rfl, Nat.le_of_ble_eq_true rfl⟩, hts _ wd_266⟩ XT_ok (fun _ _ _ => trivial) hK hP hD hS hA [] [] [0, 1, 2, 3, 4, 5, 6, 7, 8] [0, 1, 2, 3, 4, 5, 6, 7, 8] rfl rfl rfl rfl rfl (by decide) rfl rfl rfl hl.1 rfl (Nat.le_of_ble_eq_true rfl) d_B_buildNumeric_4 ⟨Nat.zero_le _, Nat.zero_le _⟩ (st1 := [.int (nI (50 + nt * 4))]) rfl (fun H locs hP hD hS => ?_)
  refine lv_istore (lv' := [(4, .int (nI (50 + nt * 4))), (0, .ref (ad 0)), (1, .int (nI 0)), (2, .int (nI ka)), (3, .int kb)]) hx hb d_B_buildNumeric_7 hl (by decide) rfl (fun ls hl => ?_)
  refine lv_aload_n hx hb d_B_buildNumeric_9 rfl (lv_at hl 1 rfl) ?_
  refine va_get (D := D) (ci := 0) (v := .ref (ad 6)) (C := R_B) (T := F_B) (N := 14) hx hb hts in_B hown hK hP 0 rfl rfl 6 (by decide) (hts _ wd_53) (fun _ h9 => h9) rfl d_B_buildNumeric_10 ?_
  refine lv_aload_n hx hb d_B_buildNumeric_13 rfl (lv_at hl 1 rfl) ?_
  refine va_get (D := D) (ci := 0) (v := .int (nI nt)) (C := R_B) (T := F_B) (N := 14) hx hb hts in_B hown hK hP 0 rfl rfl 7 (by decide) (hts _ wd_54) (fun _ h9 => h9) rfl d_B_buildNumeric_14 ?_
  refine n_iald hx hb hK hP 6 1 rfl rfl (i := nt) (by omega) (by omega) d_B_buildNumeric_17 ?_
  rw [hwd]
  refine lv_istore (lv' := [(5, .int (nI wd)), (4, .int (nI (50 + nt * 4))), (0, .ref (ad 0)), (1, .int (nI 0)), (2, .int (nI ka)), (3, .int kb)]) hx hb d_B_buildNumeric_18 hl (by decide) rfl (fun ls hl => ?_)
  refine lv_iload_n hx hb d_B_buildNumeric_20 rfl (lv_at hl 3 rfl) ?_
  refine lv_tableIn (tgt := 52) (off := 31) hx hb d_B_buildNumeric_21 (by decide +kernel) (by decide +kernel) (by decide +kernel) (by decide) ?_
  refine lv_aload_n hx hb d_B_buildNumeric_52 rfl (lv_at hl 2 rfl) ?_
  refine lv_iload hx hb d_B_buildNumeric_53 (lv_at hl 1 rfl) ?_
  refine lv_iload_n hx hb d_B_buildNumeric_55 rfl (lv_at hl 4 rfl) ?_
  refine lv_iload hx hb d_B_buildNumeric_56 (lv_at hl 0 rfl) ?_
  refine fn_V (ws' := (bsW ad cL cI nv nb nt nf na lv nm vw vp tw ab am (oNum (50 + nt * 4) ka wd w))) (w1 := (bsW ad cL cI nv nb nt nf na lv nm vw vp tw ab am (oNum (50 + nt * 4) ka wd w))) (wc := (bsW ad cL cI nv nb nt nf na lv nm vw vp tw ab am w)) (wr := []) ⟨hx, hb, hml, hown, hts⟩ (c_B_buildNumber l D ad cL cI nv nb nt nf na lv nm vw vp tw ab am w hok (50 + nt * 4) ka wd (by omega) (by omega) (by omega)) ⟨callB_of 3 hts (gW wd_271) rfl rfl rfl (hts _ wd_1) (hts _ wd_268) hd_B_buildNumber ⟨Nat.le_of_ble_eq_true rfl, Nat.le_of_ble_eq_true rfl⟩, hts _ wd_270, hts _ wd_p14⟩ XT_ok (fun _ _ _ => trivial) hK hP hD hS hA 0 0 rfl rfl rfl [0, 1] [0, 1, 2, 3, 4, 5, 6, 7, 8] [] [0, 1, 2, 3, 4, 5, 6, 7, 8] rfl rfl rfl rfl rfl (by decide) rfl rfl rfl hl.1 rfl (Nat.le_of_ble_eq_true rfl) d_B_buildNumeric_58 ⟨Nat.zero_le _, Nat.zero_le _⟩ (st1 := []) rfl (fun H locs hP hD hS => ?_)
  refine lv_goto (tgt := 137) hx hb d_B_buildNumeric_61 (by decide) ?_
  exact fn_vret hx hb hr hlocks hAe hK hP hD hS d_B_buildNumeric_137
set_option maxHeartbeats 4000000 in
set_option maxRecDepth 100000 in
theorem c_B_buildNumeric_1 (l : Launch) (D : va_G) (ad : Nat → Nat) (cL cI : ClassId) (nv nb nt nf na lv nm : Nat) (vw vp tw ab am : Nat → Nat) (w : Nat → Int64) (hok : Bok nv nb nt nf na lv nm vw vp tw ab am) (n0 t0 : Nat) (u : ∀ i, i < 9 → n0 ≤ ad i) (ka : Nat) (kb : Int32) (ha : ka < nv) (wd : Nat) (hwd : tw nt = wd) (h1 : 1 ≤ wd) (h4 : wd ≤ 4) (hnt : nt < 50)  : Fn l y_B_buildNumeric (wk y_B_buildNumeric b_B_buildNumeric 6 none) rm_B_buildNumeric D cls [(cL, .long), (cI, .int)] [.ref (ad 0), .int (nI 1), .int (nI ka), .int kb] (bsW ad cL cI nv nb nt nf na lv nm vw vp tw ab am w) (Zt n0 t0) none (bsW ad cL cI nv nb nt nf na lv nm vw vp tw ab am (oVar (50 + nt * 4) (vp ka) (vw ka) w)) := by
  refine Fn.of (by decide) rfl (Nat.le_of_ble_eq_true rfl) ?_
  intro p e s m below meth c A ls hx hb hml hr hts0 hown hlocks hnm hP hK hD hS hA hAe hX hl
  have hts : ∀ w ∈ lw_ok, w.before _ s = true := fun w h => hts0 w (List.mem_cons_of_mem _ h)
  have hown : s.vm.findClass R_B = some m.cls := hown
  have hP : va_P D cls (bsW ad cL cI nv nb nt nf na lv nm vw vp tw ab am w) s.heap := hP
  have hl : lv_has ls 6 [(0, .ref (ad 0)), (1, .int (nI 1)), (2, .int (nI ka)), (3, .int kb)] := hl
  obtain ⟨o_nv, o_nb, o_nt, o_nf, o_na, o_lv, o_nm, o_vw, o_tw, o_am, o_ab⟩ := id hok
  have hAn : ∀ q, A q → n0 ≤ q := fun q h => by rw [hAe] at h; exact Zt_AB hX u h
  refine lv_aload_n hx hb d_B_buildNumeric_0 rfl (lv_at hl 0 rfl) ?_
  refine va_get (D := D) (ci := 0) (v := .int (nI nt)) (C := R_B) (T := F_B) (N := 14) hx hb hts in_B hown hK hP 0 rfl rfl 7 (by decide) (hts _ wd_54) (fun _ h9 => h9) rfl d_B_buildNumeric_1 ?_
  refine fn_S (ws' := (bsW ad cL cI nv nb nt nf na lv nm vw vp tw ab am w)) (w1 := (nilW)) (wc := (nilW)) (wr := [(ad 0, .inr (0, [.ref (ad 2), .ref (ad 1), .ref (ad 4), .ref (ad 5), .int (nI nv), .int (nI nb), .ref (ad 6), .int (nI nt), .int (nI nf), .ref (ad 7), .int (nI na), .int (nI lv), .ref (ad 8), .int (nI nm)])), (ad 1, .inr (2, [.ref (ad 2)])), (ad 2, .inr (1, [.ref (ad 3)])), (ad 3, .inl (cL, 4160, .inr (.inl w))), (ad 4, .inl (cI, 6, .inl (fun j => nI (vw j)))), (ad 5, .inl (cI, 6, .inl (fun j => nI (vp j)))), (ad 6, .inl (cI, 50, .inl (fun j => nI (tw j)))), (ad 7, .inl (cI, 6, .inl (fun j => nI (ab j)))), (ad 8, .inl (cI, 8, .inl (fun j => nI (am j))))]) ⟨hx, hb, hml, hown, hts⟩ (c_B_termRow l D nt) ⟨callB_of 1 hts (gW wd_267) rfl rfl rfl (hts _ wd_1) (hts _ wd_265) hd_B_termRow ⟨Nat.le_of_ble_eq_true rfl, Nat.le_of_ble_eq_true rfl⟩, hts _ wd_266⟩ XT_ok (fun _ _ _ => trivial) hK hP hD hS hA [] [] [0, 1, 2, 3, 4, 5, 6, 7, 8] [0, 1, 2, 3, 4, 5, 6, 7, 8] rfl rfl rfl rfl rfl (by decide) rfl rfl rfl hl.1 rfl (Nat.le_of_ble_eq_true rfl) d_B_buildNumeric_4 ⟨Nat.zero_le _, Nat.zero_le _⟩ (st1 := [.int (nI (50 + nt * 4))]) rfl (fun H locs hP hD hS => ?_)
  refine lv_istore (lv' := [(4, .int (nI (50 + nt * 4))), (0, .ref (ad 0)), (1, .int (nI 1)), (2, .int (nI ka)), (3, .int kb)]) hx hb d_B_buildNumeric_7 hl (by decide) rfl (fun ls hl => ?_)
  refine lv_aload_n hx hb d_B_buildNumeric_9 rfl (lv_at hl 1 rfl) ?_
  refine va_get (D := D) (ci := 0) (v := .ref (ad 6)) (C := R_B) (T := F_B) (N := 14) hx hb hts in_B hown hK hP 0 rfl rfl 6 (by decide) (hts _ wd_53) (fun _ h9 => h9) rfl d_B_buildNumeric_10 ?_
  refine lv_aload_n hx hb d_B_buildNumeric_13 rfl (lv_at hl 1 rfl) ?_
  refine va_get (D := D) (ci := 0) (v := .int (nI nt)) (C := R_B) (T := F_B) (N := 14) hx hb hts in_B hown hK hP 0 rfl rfl 7 (by decide) (hts _ wd_54) (fun _ h9 => h9) rfl d_B_buildNumeric_14 ?_
  refine n_iald hx hb hK hP 6 1 rfl rfl (i := nt) (by omega) (by omega) d_B_buildNumeric_17 ?_
  rw [hwd]
  refine lv_istore (lv' := [(5, .int (nI wd)), (4, .int (nI (50 + nt * 4))), (0, .ref (ad 0)), (1, .int (nI 1)), (2, .int (nI ka)), (3, .int kb)]) hx hb d_B_buildNumeric_18 hl (by decide) rfl (fun ls hl => ?_)
  refine lv_iload_n hx hb d_B_buildNumeric_20 rfl (lv_at hl 3 rfl) ?_
  refine lv_tableIn (tgt := 64) (off := 43) hx hb d_B_buildNumeric_21 (by decide +kernel) (by decide +kernel) (by decide +kernel) (by decide) ?_
  refine lv_aload_n hx hb d_B_buildNumeric_64 rfl (lv_at hl 2 rfl) ?_
  refine lv_iload hx hb d_B_buildNumeric_65 (lv_at hl 1 rfl) ?_
  refine lv_iload_n hx hb d_B_buildNumeric_67 rfl (lv_at hl 4 rfl) ?_
  refine fn_V (ws' := (bsW ad cL cI nv nb nt nf na lv nm vw vp tw ab am (oVar (50 + nt * 4) (vp ka) (vw ka) w))) (w1 := (bsW ad cL cI nv nb nt nf na lv nm vw vp tw ab am (oVar (50 + nt * 4) (vp ka) (vw ka) w))) (wc := (bsW ad cL cI nv nb nt nf na lv nm vw vp tw ab am w)) (wr := []) ⟨hx, hb, hml, hown, hts⟩ (c_B_buildVariable l D ad cL cI nv nb nt nf na lv nm vw vp tw ab am w hok n0 t0 u (50 + nt * 4) ka (by omega) (by omega)) ⟨callB_of 2 hts (gW wd_275) rfl rfl rfl (hts _ wd_1) (hts _ wd_272) hd_B_buildVariable ⟨Nat.le_of_ble_eq_true rfl, Nat.le_of_ble_eq_true rfl⟩, hts _ wd_274, hts _ wd_p15⟩ Zt_ok (Zt_kept hX hS hAn) hK hP hD hS hA 0 0 rfl rfl rfl [0, 1] [0, 1, 2, 3, 4, 5, 6, 7, 8] [] [0, 1, 2, 3, 4, 5, 6, 7, 8] rfl rfl rfl rfl rfl (by decide) rfl rfl rfl hl.1 rfl (Nat.le_of_ble_eq_true rfl) d_B_buildNumeric_68 ⟨Nat.zero_le _, Nat.zero_le _⟩ (st1 := []) rfl (fun H locs hP hD hS => ?_)
  refine lv_goto (tgt := 137) hx hb d_B_buildNumeric_71 (by decide) ?_
  exact fn_vret hx hb hr hlocks hAe hK hP hD hS d_B_buildNumeric_137
set_option maxHeartbeats 4000000 in
set_option maxRecDepth 100000 in
theorem c_B_buildBitwise_5 (l : Launch) (D : va_G) (ad : Nat → Nat) (cL cI : ClassId) (nv nb nt nf na lv nm : Nat) (vw vp tw ab am : Nat → Nat) (w : Nat → Int64) (hok : Bok nv nb nt nf na lv nm vw vp tw ab am) (ka kb : Nat) (ha : ka < nt) (hb2 : kb < nt)  (wd : Nat) (hwd : tw nt = wd) (h1 : 1 ≤ wd) (h4 : wd ≤ 4) (hnt : nt < 50)  : Fn l y_B_buildBitwise (wk y_B_buildBitwise b_B_buildBitwise 6 none) rm_B_buildBitwise D cls [(cL, .long), (cI, .int)] [.ref (ad 0), .int (nI 5), .int (nI ka), .int (nI kb)] (bsW ad cL cI nv nb nt nf na lv nm vw vp tw ab am w) XT none (bsW ad cL cI nv nb nt nf na lv nm vw vp tw ab am (oAnd (50 + nt * 4) (50 + ka * 4) (50 + kb * 4) wd w)) := by
  refine Fn.of (by decide) rfl (Nat.le_of_ble_eq_true rfl) ?_
  intro p e s m below meth c A ls hx hb hml hr hts0 hown hlocks hnm hP hK hD hS hA hAe hX hl
  have hts : ∀ w ∈ lw_ok, w.before _ s = true := fun w h => hts0 w (List.mem_cons_of_mem _ h)
  have hown : s.vm.findClass R_B = some m.cls := hown
  have hP : va_P D cls (bsW ad cL cI nv nb nt nf na lv nm vw vp tw ab am w) s.heap := hP
  have hl : lv_has ls 6 [(0, .ref (ad 0)), (1, .int (nI 5)), (2, .int (nI ka)), (3, .int (nI kb))] := hl
  obtain ⟨o_nv, o_nb, o_nt, o_nf, o_na, o_lv, o_nm, o_vw, o_tw, o_am, o_ab⟩ := id hok
  refine lv_aload_n hx hb d_B_buildBitwise_0 rfl (lv_at hl 0 rfl) ?_
  refine va_get (D := D) (ci := 0) (v := .int (nI nt)) (C := R_B) (T := F_B) (N := 14) hx hb hts in_B hown hK hP 0 rfl rfl 7 (by decide) (hts _ wd_54) (fun _ h9 => h9) rfl d_B_buildBitwise_1 ?_
  refine fn_S (ws' := (bsW ad cL cI nv nb nt nf na lv nm vw vp tw ab am w)) (w1 := (nilW)) (wc := (nilW)) (wr := [(ad 0, .inr (0, [.ref (ad 2), .ref (ad 1), .ref (ad 4), .ref (ad 5), .int (nI nv), .int (nI nb), .ref (ad 6), .int (nI nt), .int (nI nf), .ref (ad 7), .int (nI na), .int (nI lv), .ref (ad 8), .int (nI nm)])), (ad 1, .inr (2, [.ref (ad 2)])), (ad 2, .inr (1, [.ref (ad 3)])), (ad 3, .inl (cL, 4160, .inr (.inl w))), (ad 4, .inl (cI, 6, .inl (fun j => nI (vw j)))), (ad 5, .inl (cI, 6, .inl (fun j => nI (vp j)))), (ad 6, .inl (cI, 50, .inl (fun j => nI (tw j)))), (ad 7, .inl (cI, 6, .inl (fun j => nI (ab j)))), (ad 8, .inl (cI, 8, .inl (fun j => nI (am j))))]) ⟨hx, hb, hml, hown, hts⟩ (c_B_termRow l D nt) ⟨callB_of 1 hts (gW wd_267) rfl rfl rfl (hts _ wd_1) (hts _ wd_265) hd_B_termRow ⟨Nat.le_of_ble_eq_true rfl, Nat.le_of_ble_eq_true rfl⟩, hts _ wd_266⟩ XT_ok (fun _ _ _ => trivial) hK hP hD hS hA [] [] [0, 1, 2, 3, 4, 5, 6, 7, 8] [0, 1, 2, 3, 4, 5, 6, 7, 8] rfl rfl rfl rfl rfl (by decide) rfl rfl rfl hl.1 rfl (Nat.le_of_ble_eq_true rfl) d_B_buildBitwise_4 ⟨Nat.zero_le _, Nat.zero_le _⟩ (st1 := [.int (nI (50 + nt * 4))]) rfl (fun H locs hP hD hS => ?_)
  refine lv_istore (lv' := [(4, .int (nI (50 + nt * 4))), (0, .ref (ad 0)), (1, .int (nI 5)), (2, .int (nI ka)), (3, .int (nI kb))]) hx hb d_B_buildBitwise_7 hl (by decide) rfl (fun ls hl => ?_)
  refine lv_aload_n hx hb d_B_buildBitwise_9 rfl (lv_at hl 1 rfl) ?_
  refine va_get (D := D) (ci := 0) (v := .ref (ad 6)) (C := R_B) (T := F_B) (N := 14) hx hb hts in_B hown hK hP 0 rfl rfl 6 (by decide) (hts _ wd_53) (fun _ h9 => h9) rfl d_B_buildBitwise_10 ?_
  refine lv_aload_n hx hb d_B_buildBitwise_13 rfl (lv_at hl 1 rfl) ?_
  refine va_get (D := D) (ci := 0) (v := .int (nI nt)) (C := R_B) (T := F_B) (N := 14) hx hb hts in_B hown hK hP 0 rfl rfl 7 (by decide) (hts _ wd_54) (fun _ h9 => h9) rfl d_B_buildBitwise_14 ?_
  refine n_iald hx hb hK hP 6 1 rfl rfl (i := nt) (by omega) (by omega) d_B_buildBitwise_17 ?_
  rw [hwd]
  refine lv_istore (lv' := [(5, .int (nI wd)), (4, .int (nI (50 + nt * 4))), (0, .ref (ad 0)), (1, .int (nI 5)), (2, .int (nI ka)), (3, .int (nI kb))]) hx hb d_B_buildBitwise_18 hl (by decide) rfl (fun ls hl => ?_)
  refine lv_iload_n hx hb d_B_buildBitwise_20 rfl (lv_at hl 3 rfl) ?_
  refine lv_tableIn (tgt := 48) (off := 27) hx hb d_B_buildBitwise_21 (by decide +kernel) (by decide +kernel) (by decide +kernel) (by decide) ?_
  refine lv_aload_n hx hb d_B_buildBitwise_48 rfl (lv_at hl 2 rfl) ?_
  refine va_get (D := D) (ci := 0) (v := .ref (ad 2)) (C := R_B) (T := F_B) (N := 14) hx hb hts in_B hown hK hP 0 rfl rfl 0 (by decide) (hts _ wd_47) (fun _ h9 => h9) rfl d_B_buildBitwise_49 ?_
  refine lv_iload hx hb d_B_buildBitwise_52 (lv_at hl 1 rfl) ?_
  refine lv_iload_n hx hb d_B_buildBitwise_54 rfl (lv_at hl 4 rfl) ?_
  refine fn_S (ws' := (bsW ad cL cI nv nb nt nf na lv nm vw vp tw ab am w)) (w1 := (nilW)) (wc := (nilW)) (wr := [(ad 0, .inr (0, [.ref (ad 2), .ref (ad 1), .ref (ad 4), .ref (ad 5), .int (nI nv), .int (nI nb), .ref (ad 6), .int (nI nt), .int (nI nf), .ref (ad 7), .int (nI na), .int (nI lv), .ref (ad 8), .int (nI nm)])), (ad 1, .inr (2, [.ref (ad 2)])), (ad 2, .inr (1, [.ref (ad 3)])), (ad 3, .inl (cL, 4160, .inr (.inl w))), (ad 4, .inl (cI, 6, .inl (fun j => nI (vw j)))), (ad 5, .inl (cI, 6, .inl (fun j => nI (vp j)))), (ad 6, .inl (cI, 50, .inl (fun j => nI (tw j)))), (ad 7, .inl (cI, 6, .inl (fun j => nI (ab j)))), (ad 8, .inl (cI, 8, .inl (fun j => nI (am j))))]) ⟨hx, hb, hml, hown, hts⟩ (c_B_termRow l D ka) ⟨callB_of 1 hts (gW wd_267) rfl rfl rfl (hts _ wd_1) (hts _ wd_265) hd_B_termRow ⟨Nat.le_of_ble_eq_true rfl, Nat.le_of_ble_eq_true rfl⟩, hts _ wd_266⟩ XT_ok (fun _ _ _ => trivial) hK hP hD hS hA [] [] [0, 1, 2, 3, 4, 5, 6, 7, 8] [0, 1, 2, 3, 4, 5, 6, 7, 8] rfl rfl rfl rfl rfl (by decide) rfl rfl rfl hl.1 rfl (Nat.le_of_ble_eq_true rfl) d_B_buildBitwise_55 ⟨Nat.zero_le _, Nat.zero_le _⟩ (st1 := [.int (nI (50 + ka * 4)), .int (nI (50 + nt * 4)), .ref (ad 2)]) rfl (fun H locs hP hD hS => ?_)
  refine lv_iload_n hx hb d_B_buildBitwise_58 rfl (lv_at hl 5 rfl) ?_
  refine fn_S (ws' := (bsW ad cL cI nv nb nt nf na lv nm vw vp tw ab am w)) (w1 := (nilW)) (wc := (nilW)) (wr := [(ad 0, .inr (0, [.ref (ad 2), .ref (ad 1), .ref (ad 4), .ref (ad 5), .int (nI nv), .int (nI nb), .ref (ad 6), .int (nI nt), .int (nI nf), .ref (ad 7), .int (nI na), .int (nI lv), .ref (ad 8), .int (nI nm)])), (ad 1, .inr (2, [.ref (ad 2)])), (ad 2, .inr (1, [.ref (ad 3)])), (ad 3, .inl (cL, 4160, .inr (.inl w))), (ad 4, .inl (cI, 6, .inl (fun j => nI (vw j)))), (ad 5, .inl (cI, 6, .inl (fun j => nI (vp j)))), (ad 6, .inl (cI, 50, .inl (fun j => nI (tw j)))), (ad 7, .inl (cI, 6, .inl (fun j => nI (ab j)))), (ad 8, .inl (cI, 8, .inl (fun j => nI (am j))))]) ⟨hx, hb, hml, hown, hts⟩ (c_B_termRow l D kb) ⟨callB_of 1 hts (gW wd_267) rfl rfl rfl (hts _ wd_1) (hts _ wd_265) hd_B_termRow ⟨Nat.le_of_ble_eq_true rfl, Nat.le_of_ble_eq_true rfl⟩, hts _ wd_266⟩ XT_ok (fun _ _ _ => trivial) hK hP hD hS hA [] [] [0, 1, 2, 3, 4, 5, 6, 7, 8] [0, 1, 2, 3, 4, 5, 6, 7, 8] rfl rfl rfl rfl rfl (by decide) rfl rfl rfl hl.1 rfl (Nat.le_of_ble_eq_true rfl) d_B_buildBitwise_59 ⟨Nat.zero_le _, Nat.zero_le _⟩ (st1 := [.int (nI (50 + kb * 4)), .int (nI (50 + ka * 4)), .int (nI (50 + nt * 4)), .ref (ad 2)]) rfl (fun H locs hP hD hS => ?_)
  refine lv_iload hx hb d_B_buildBitwise_62 (lv_at hl 0 rfl) ?_
  refine fn_V (ws' := (bsW ad cL cI nv nb nt nf na lv nm vw vp tw ab am (oAnd (50 + nt * 4) (50 + ka * 4) (50 + kb * 4) wd w))) (w1 := (setsW (ad 2) (ad 3) cL (oAnd (50 + nt * 4) (50 + ka * 4) (50 + kb * 4) wd w))) (wc := (setsW (ad 2) (ad 3) cL w)) (wr := [(ad 0, .inr (0, [.ref (ad 2), .ref (ad 1), .ref (ad 4), .ref (ad 5), .int (nI nv), .int (nI nb), .ref (ad 6), .int (nI nt), .int (nI nf), .ref (ad 7), .int (nI na), .int (nI lv), .ref (ad 8), .int (nI nm)])), (ad 1, .inr (2, [.ref (ad 2)])), (ad 4, .inl (cI, 6, .inl (fun j => nI (vw j)))), (ad 5, .inl (cI, 6, .inl (fun j => nI (vp j)))), (ad 6, .inl (cI, 50, .inl (fun j => nI (tw j)))), (ad 7, .inl (cI, 6, .inl (fun j => nI (ab j)))), (ad 8, .inl (cI, 8, .inl (fun j => nI (am j))))]) ⟨hx, hb, hml, hown, hts⟩ (c_S_and l D (ad 2) (ad 3) cL w (50 + nt * 4) (50 + ka * 4) (50 + kb * 4) wd (by omega) (by omega) (by omega) (by omega) (by omega)) ⟨callB_of 4 hts (gW wd_134) rfl rfl rfl (hts _ wd_3) (hts _ wd_131) hd_S_and ⟨Nat.le_of_ble_eq_true rfl, Nat.le_of_ble_eq_true rfl⟩, hts _ wd_132, hts _ wd_133⟩ XT_ok (fun _ _ _ => trivial) hK hP hD hS hA 2 1 rfl rfl rfl [0] [2, 3] [0, 1, 4, 5, 6, 7, 8] [0, 1, 7, 8, 2, 3, 4, 5, 6] rfl rfl rfl rfl rfl (by decide) rfl rfl rfl hl.1 rfl (Nat.le_of_ble_eq_true rfl) d_B_buildBitwise_64 ⟨Nat.zero_le _, Nat.zero_le _⟩ (st1 := []) rfl (fun H locs hP hD hS => ?_)
  refine lv_goto (tgt := 129) hx hb d_B_buildBitwise_67 (by decide) ?_
  exact fn_vret hx hb hr hlocks hAe hK hP hD hS d_B_buildBitwise_129
set_option maxHeartbeats 4000000 in
set_option maxRecDepth 100000 in
theorem c_B_buildBitwise_6 (l : Launch) (D : va_G) (ad : Nat → Nat) (cL cI : ClassId) (nv nb nt nf na lv nm : Nat) (vw vp tw ab am : Nat → Nat) (w : Nat → Int64) (hok : Bok nv nb nt nf na lv nm vw vp tw ab am) (ka kb : Nat) (ha : ka < nt) (hb2 : kb < nt)  (wd : Nat) (hwd : tw nt = wd) (h1 : 1 ≤ wd) (h4 : wd ≤ 4) (hnt : nt < 50)  : Fn l y_B_buildBitwise (wk y_B_buildBitwise b_B_buildBitwise 6 none) rm_B_buildBitwise D cls [(cL, .long), (cI, .int)] [.ref (ad 0), .int (nI 6), .int (nI ka), .int (nI kb)] (bsW ad cL cI nv nb nt nf na lv nm vw vp tw ab am w) XT none (bsW ad cL cI nv nb nt nf na lv nm vw vp tw ab am (oOr (50 + nt * 4) (50 + ka * 4) (50 + kb * 4) wd w)) := by
  refine Fn.of (by decide) rfl (Nat.le_of_ble_eq_true rfl) ?_
  intro p e s m below meth c A ls hx hb hml hr hts0 hown hlocks hnm hP hK hD hS hA hAe hX hl
  have hts : ∀ w ∈ lw_ok, w.before _ s = true := fun w h => hts0 w (List.mem_cons_of_mem _ h)
  have hown : s.vm.findClass R_B = some m.cls := hown
  have hP : va_P D cls (bsW ad cL cI nv nb nt nf na lv nm vw vp tw ab am w) s.heap := hP
  have hl : lv_has ls 6 [(0, .ref (ad 0)), (1, .int (nI 6)), (2, .int (nI ka)), (3, .int (nI kb))] := hl
  obtain ⟨o_nv, o_nb, o_nt, o_nf, o_na, o_lv, o_nm, o_vw, o_tw, o_am, o_ab⟩ := id hok
  refine lv_aload_n hx hb d_B_buildBitwise_0 rfl (lv_at hl 0 rfl) ?_
  refine va_get (D := D) (ci := 0) (v := .int (nI nt)) (C := R_B) (T := F_B) (N := 14) hx hb hts in_B hown hK hP 0 rfl rfl 7 (by decide) (hts _ wd_54) (fun _ h9 => h9) rfl d_B_buildBitwise_1 ?_
  refine fn_S (ws' := (bsW ad cL cI nv nb nt nf na lv nm vw vp tw ab am w)) (w1 := (nilW)) (wc := (nilW)) (wr := [(ad 0, .inr (0, [.ref (ad 2), .ref (ad 1), .ref (ad 4), .ref (ad 5), .int (nI nv), .int (nI nb), .ref (ad 6), .int (nI nt), .int (nI nf), .ref (ad 7), .int (nI na), .int (nI lv), .ref (ad 8), .int (nI nm)])), (ad 1, .inr (2, [.ref (ad 2)])), (ad 2, .inr (1, [.ref (ad 3)])), (ad 3, .inl (cL, 4160, .inr (.inl w))), (ad 4, .inl (cI, 6, .inl (fun j => nI (vw j)))), (ad 5, .inl (cI, 6, .inl (fun j => nI (vp j)))), (ad 6, .inl (cI, 50, .inl (fun j => nI (tw j)))), (ad 7, .inl (cI, 6, .inl (fun j => nI (ab j)))), (ad 8, .inl (cI, 8, .inl (fun j => nI (am j))))]) ⟨hx, hb, hml, hown, hts⟩ (c_B_termRow l D nt) ⟨callB_of 1 hts (gW wd_267) rfl rfl rfl (hts _ wd_1) (hts _ wd_265) hd_B_termRow ⟨Nat.le_of_ble_eq_true rfl, Nat.le_of_ble_eq_true rfl⟩, hts _ wd_266⟩ XT_ok (fun _ _ _ => trivial) hK hP hD hS hA [] [] [0, 1, 2, 3, 4, 5, 6, 7, 8] [0, 1, 2, 3, 4, 5, 6, 7, 8] rfl rfl rfl rfl rfl (by decide) rfl rfl rfl hl.1 rfl (Nat.le_of_ble_eq_true rfl) d_B_buildBitwise_4 ⟨Nat.zero_le _, Nat.zero_le _⟩ (st1 := [.int (nI (50 + nt * 4))]) rfl (fun H locs hP hD hS => ?_)
  refine lv_istore (lv' := [(4, .int (nI (50 + nt * 4))), (0, .ref (ad 0)), (1, .int (nI 6)), (2, .int (nI ka)), (3, .int (nI kb))]) hx hb d_B_buildBitwise_7 hl (by decide) rfl (fun ls hl => ?_)
  refine lv_aload_n hx hb d_B_buildBitwise_9 rfl (lv_at hl 1 rfl) ?_
  refine va_get (D := D) (ci := 0) (v := .ref (ad 6)) (C := R_B) (T := F_B) (N := 14) hx hb hts in_B hown hK hP 0 rfl rfl 6 (by decide) (hts _ wd_53) (fun _ h9 => h9) rfl d_B_buildBitwise_10 ?_
  refine lv_aload_n hx hb d_B_buildBitwise_13 rfl (lv_at hl 1 rfl) ?_
  refine va_get (D := D) (ci := 0) (v := .int (nI nt)) (C := R_B) (T := F_B) (N := 14) hx hb hts in_B hown hK hP 0 rfl rfl 7 (by decide) (hts _ wd_54) (fun _ h9 => h9) rfl d_B_buildBitwise_14 ?_
  refine n_iald hx hb hK hP 6 1 rfl rfl (i := nt) (by omega) (by omega) d_B_buildBitwise_17 ?_
  rw [hwd]
  refine lv_istore (lv' := [(5, .int (nI wd)), (4, .int (nI (50 + nt * 4))), (0, .ref (ad 0)), (1, .int (nI 6)), (2, .int (nI ka)), (3, .int (nI kb))]) hx hb d_B_buildBitwise_18 hl (by decide) rfl (fun ls hl => ?_)
  refine lv_iload_n hx hb d_B_buildBitwise_20 rfl (lv_at hl 3 rfl) ?_
  refine lv_tableIn (tgt := 70) (off := 49) hx hb d_B_buildBitwise_21 (by decide +kernel) (by decide +kernel) (by decide +kernel) (by decide) ?_
  refine lv_aload_n hx hb d_B_buildBitwise_70 rfl (lv_at hl 2 rfl) ?_
  refine va_get (D := D) (ci := 0) (v := .ref (ad 2)) (C := R_B) (T := F_B) (N := 14) hx hb hts in_B hown hK hP 0 rfl rfl 0 (by decide) (hts _ wd_47) (fun _ h9 => h9) rfl d_B_buildBitwise_71 ?_
  refine lv_iload hx hb d_B_buildBitwise_74 (lv_at hl 1 rfl) ?_
  refine lv_iload_n hx hb d_B_buildBitwise_76 rfl (lv_at hl 4 rfl) ?_
  refine fn_S (ws' := (bsW ad cL cI nv nb nt nf na lv nm vw vp tw ab am w)) (w1 := (nilW)) (wc := (nilW)) (wr := [(ad 0, .inr (0, [.ref (ad 2), .ref (ad 1), .ref (ad 4), .ref (ad 5), .int (nI nv), .int (nI nb), .ref (ad 6), .int (nI nt), .int (nI nf), .ref (ad 7), .int (nI na), .int (nI lv), .ref (ad 8), .int (nI nm)])), (ad 1, .inr (2, [.ref (ad 2)])), (ad 2, .inr (1, [.ref (ad 3)])), (ad 3, .inl (cL, 4160, .inr (.inl w))), (ad 4, .inl (cI, 6, .inl (fun j => nI (vw j)))), (ad 5, .inl (cI, 6, .inl (fun j => nI (vp j)))), (ad 6, .inl (cI, 50, .inl (fun j => nI (tw j)))), (ad 7, .inl (cI, 6, .inl (fun j => nI (ab j)))), (ad 8, .inl (cI, 8, .inl (fun j => nI (am j))))]) ⟨hx, hb, hml, hown, hts⟩ (c_B_termRow l D ka) ⟨callB_of 1 hts (gW wd_267) rfl rfl rfl (hts _ wd_1) (hts _ wd_265) hd_B_termRow ⟨Nat.le_of_ble_eq_true rfl, Nat.le_of_ble_eq_true rfl⟩, hts _ wd_266⟩ XT_ok (fun _ _ _ => trivial) hK hP hD hS hA [] [] [0, 1, 2, 3, 4, 5, 6, 7, 8] [0, 1, 2, 3, 4, 5, 6, 7, 8] rfl rfl rfl rfl rfl (by decide) rfl rfl rfl hl.1 rfl (Nat.le_of_ble_eq_true rfl) d_B_buildBitwise_77 ⟨Nat.zero_le _, Nat.zero_le _⟩ (st1 := [.int (nI (50 + ka * 4)), .int (nI (50 + nt * 4)), .ref (ad 2)]) rfl (fun H locs hP hD hS => ?_)
  refine lv_iload_n hx hb d_B_buildBitwise_80 rfl (lv_at hl 5 rfl) ?_
  refine fn_S (ws' := (bsW ad cL cI nv nb nt nf na lv nm vw vp tw ab am w)) (w1 := (nilW)) (wc := (nilW)) (wr := [(ad 0, .inr (0, [.ref (ad 2), .ref (ad 1), .ref (ad 4), .ref (ad 5), .int (nI nv), .int (nI nb), .ref (ad 6), .int (nI nt), .int (nI nf), .ref (ad 7), .int (nI na), .int (nI lv), .ref (ad 8), .int (nI nm)])), (ad 1, .inr (2, [.ref (ad 2)])), (ad 2, .inr (1, [.ref (ad 3)])), (ad 3, .inl (cL, 4160, .inr (.inl w))), (ad 4, .inl (cI, 6, .inl (fun j => nI (vw j)))), (ad 5, .inl (cI, 6, .inl (fun j => nI (vp j)))), (ad 6, .inl (cI, 50, .inl (fun j => nI (tw j)))), (ad 7, .inl (cI, 6, .inl (fun j => nI (ab j)))), (ad 8, .inl (cI, 8, .inl (fun j => nI (am j))))]) ⟨hx, hb, hml, hown, hts⟩ (c_B_termRow l D kb) ⟨callB_of 1 hts (gW wd_267) rfl rfl rfl (hts _ wd_1) (hts _ wd_265) hd_B_termRow ⟨Nat.le_of_ble_eq_true rfl, Nat.le_of_ble_eq_true rfl⟩, hts _ wd_266⟩ XT_ok (fun _ _ _ => trivial) hK hP hD hS hA [] [] [0, 1, 2, 3, 4, 5, 6, 7, 8] [0, 1, 2, 3, 4, 5, 6, 7, 8] rfl rfl rfl rfl rfl (by decide) rfl rfl rfl hl.1 rfl (Nat.le_of_ble_eq_true rfl) d_B_buildBitwise_81 ⟨Nat.zero_le _, Nat.zero_le _⟩ (st1 := [.int (nI (50 + kb * 4)), .int (nI (50 + ka * 4)), .int (nI (50 + nt * 4)), .ref (ad 2)]) rfl (fun H locs hP hD hS => ?_)
  refine lv_iload hx hb d_B_buildBitwise_84 (lv_at hl 0 rfl) ?_
  refine fn_V (ws' := (bsW ad cL cI nv nb nt nf na lv nm vw vp tw ab am (oOr (50 + nt * 4) (50 + ka * 4) (50 + kb * 4) wd w))) (w1 := (setsW (ad 2) (ad 3) cL (oOr (50 + nt * 4) (50 + ka * 4) (50 + kb * 4) wd w))) (wc := (setsW (ad 2) (ad 3) cL w)) (wr := [(ad 0, .inr (0, [.ref (ad 2), .ref (ad 1), .ref (ad 4), .ref (ad 5), .int (nI nv), .int (nI nb), .ref (ad 6), .int (nI nt), .int (nI nf), .ref (ad 7), .int (nI na), .int (nI lv), .ref (ad 8), .int (nI nm)])), (ad 1, .inr (2, [.ref (ad 2)])), (ad 4, .inl (cI, 6, .inl (fun j => nI (vw j)))), (ad 5, .inl (cI, 6, .inl (fun j => nI (vp j)))), (ad 6, .inl (cI, 50, .inl (fun j => nI (tw j)))), (ad 7, .inl (cI, 6, .inl (fun j => nI (ab j)))), (ad 8, .inl (cI, 8, .inl (fun j => nI (am j))))]) ⟨hx, hb, hml, hown, hts⟩ (c_S_or l D (ad 2) (ad 3) cL w (50 + nt * 4) (50 + ka * 4) (50 + kb * 4) wd (by omega) (by omega) (by omega) (by omega) (by omega)) ⟨callB_of 4 hts (gW wd_302) rfl rfl rfl (hts _ wd_3) (hts _ wd_319) hd_S_or ⟨Nat.le_of_ble_eq_true rfl, Nat.le_of_ble_eq_true rfl⟩, hts _ wd_300, hts _ wd_301⟩ XT_ok (fun _ _ _ => trivial) hK hP hD hS hA 2 1 rfl rfl rfl [0] [2, 3] [0, 1, 4, 5, 6, 7, 8] [0, 1, 7, 8, 2, 3, 4, 5, 6] rfl rfl rfl rfl rfl (by decide) rfl rfl rfl hl.1 rfl (Nat.le_of_ble_eq_true rfl) d_B_buildBitwise_86 ⟨Nat.zero_le _, Nat.zero_le _⟩ (st1 := []) rfl (fun H locs hP hD hS => ?_)
  refine lv_goto (tgt := 129) hx hb d_B_buildBitwise_89 (by decide) ?_
  exact fn_vret hx hb hr hlocks hAe hK hP hD hS d_B_buildBitwise_129
set_option maxHeartbeats 4000000 in
set_option maxRecDepth 100000 in
theorem c_B_buildBitwise_7 (l : Launch) (D : va_G) (ad : Nat → Nat) (cL cI : ClassId) (nv nb nt nf na lv nm : Nat) (vw vp tw ab am : Nat → Nat) (w : Nat → Int64) (hok : Bok nv nb nt nf na lv nm vw vp tw ab am) (ka kb : Nat) (ha : ka < nt) (hb2 : kb < nt)  (wd : Nat) (hwd : tw nt = wd) (h1 : 1 ≤ wd) (h4 : wd ≤ 4) (hnt : nt < 50)  : Fn l y_B_buildBitwise (wk y_B_buildBitwise b_B_buildBitwise 6 none) rm_B_buildBitwise D cls [(cL, .long), (cI, .int)] [.ref (ad 0), .int (nI 7), .int (nI ka), .int (nI kb)] (bsW ad cL cI nv nb nt nf na lv nm vw vp tw ab am w) XT none (bsW ad cL cI nv nb nt nf na lv nm vw vp tw ab am (oXor (50 + nt * 4) (50 + ka * 4) (50 + kb * 4) wd w)) := by
  refine Fn.of (by decide) rfl (Nat.le_of_ble_eq_true rfl) ?_
  intro p e s m below meth c A ls hx hb hml hr hts0 hown hlocks hnm hP hK hD hS hA hAe hX hl
  have hts : ∀ w ∈ lw_ok, w.before _ s = true := fun w h => hts0 w (List.mem_cons_of_mem _ h)
  have hown : s.vm.findClass R_B = some m.cls := hown
  have hP : va_P D cls (bsW ad cL cI nv nb nt nf na lv nm vw vp tw ab am w) s.heap := hP
  have hl : lv_has ls 6 [(0, .ref (ad 0)), (1, .int (nI 7)), (2, .int (nI ka)), (3, .int (nI kb))] := hl
  obtain ⟨o_nv, o_nb, o_nt, o_nf, o_na, o_lv, o_nm, o_vw, o_tw, o_am, o_ab⟩ := id hok
  refine lv_aload_n hx hb d_B_buildBitwise_0 rfl (lv_at hl 0 rfl) ?_
  refine va_get (D := D) (ci := 0) (v := .int (nI nt)) (C := R_B) (T := F_B) (N := 14) hx hb hts in_B hown hK hP 0 rfl rfl 7 (by decide) (hts _ wd_54) (fun _ h9 => h9) rfl d_B_buildBitwise_1 ?_
  refine fn_S (ws' := (bsW ad cL cI nv nb nt nf na lv nm vw vp tw ab am w)) (w1 := (nilW)) (wc := (nilW)) (wr := [(ad 0, .inr (0, [.ref (ad 2), .ref (ad 1), .ref (ad 4), .ref (ad 5), .int (nI nv), .int (nI nb), .ref (ad 6), .int (nI nt), .int (nI nf), .ref (ad 7), .int (nI na), .int (nI lv), .ref (ad 8), .int (nI nm)])), (ad 1, .inr (2, [.ref (ad 2)])), (ad 2, .inr (1, [.ref (ad 3)])), (ad 3, .inl (cL, 4160, .inr (.inl w))), (ad 4, .inl (cI, 6, .inl (fun j => nI (vw j)))), (ad 5, .inl (cI, 6, .inl (fun j => nI (vp j)))), (ad 6, .inl (cI, 50, .inl (fun j => nI (tw j)))), (ad 7, .inl (cI, 6, .inl (fun j => nI (ab j)))), (ad 8, .inl (cI, 8, .inl (fun j => nI (am j))))]) ⟨hx, hb, hml, hown, hts⟩ (c_B_termRow l D nt) ⟨callB_of 1 hts (gW wd_267) rfl rfl rfl (hts _ wd_1) (hts _ wd_265) hd_B_termRow ⟨Nat.le_of_ble_eq_true rfl, Nat.le_of_ble_eq_true rfl⟩, hts _ wd_266⟩ XT_ok (fun _ _ _ => trivial) hK hP hD hS hA [] [] [0, 1, 2, 3, 4, 5, 6, 7, 8] [0, 1, 2, 3, 4, 5, 6, 7, 8] rfl rfl rfl rfl rfl (by decide) rfl rfl rfl hl.1 rfl (Nat.le_of_ble_eq_true rfl) d_B_buildBitwise_4 ⟨Nat.zero_le _, Nat.zero_le _⟩ (st1 := [.int (nI (50 + nt * 4))]) rfl (fun H locs hP hD hS => ?_)
  refine lv_istore (lv' := [(4, .int (nI (50 + nt * 4))), (0, .ref (ad 0)), (1, .int (nI 7)), (2, .int (nI ka)), (3, .int (nI kb))]) hx hb d_B_buildBitwise_7 hl (by decide) rfl (fun ls hl => ?_)
  refine lv_aload_n hx hb d_B_buildBitwise_9 rfl (lv_at hl 1 rfl) ?_
  refine va_get (D := D) (ci := 0) (v := .ref (ad 6)) (C := R_B) (T := F_B) (N := 14) hx hb hts in_B hown hK hP 0 rfl rfl 6 (by decide) (hts _ wd_53) (fun _ h9 => h9) rfl d_B_buildBitwise_10 ?_
  refine lv_aload_n hx hb d_B_buildBitwise_13 rfl (lv_at hl 1 rfl) ?_
  refine va_get (D := D) (ci := 0) (v := .int (nI nt)) (C := R_B) (T := F_B) (N := 14) hx hb hts in_B hown hK hP 0 rfl rfl 7 (by decide) (hts _ wd_54) (fun _ h9 => h9) rfl d_B_buildBitwise_14 ?_
  refine n_iald hx hb hK hP 6 1 rfl rfl (i := nt) (by omega) (by omega) d_B_buildBitwise_17 ?_
  rw [hwd]
  refine lv_istore (lv' := [(5, .int (nI wd)), (4, .int (nI (50 + nt * 4))), (0, .ref (ad 0)), (1, .int (nI 7)), (2, .int (nI ka)), (3, .int (nI kb))]) hx hb d_B_buildBitwise_18 hl (by decide) rfl (fun ls hl => ?_)
  refine lv_iload_n hx hb d_B_buildBitwise_20 rfl (lv_at hl 3 rfl) ?_
  refine lv_tableIn (tgt := 92) (off := 71) hx hb d_B_buildBitwise_21 (by decide +kernel) (by decide +kernel) (by decide +kernel) (by decide) ?_
  refine lv_aload_n hx hb d_B_buildBitwise_92 rfl (lv_at hl 2 rfl) ?_
  refine va_get (D := D) (ci := 0) (v := .ref (ad 2)) (C := R_B) (T := F_B) (N := 14) hx hb hts in_B hown hK hP 0 rfl rfl 0 (by decide) (hts _ wd_47) (fun _ h9 => h9) rfl d_B_buildBitwise_93 ?_
  refine lv_iload hx hb d_B_buildBitwise_96 (lv_at hl 1 rfl) ?_
  refine lv_iload_n hx hb d_B_buildBitwise_98 rfl (lv_at hl 4 rfl) ?_
  refine fn_S (ws' := (bsW ad cL cI nv nb nt nf na lv nm vw vp tw ab am w)) (w1 := (nilW)) (wc := (nilW)) (wr := [(ad 0, .inr (0, [.ref (ad 2), .ref (ad 1), .ref (ad 4), .ref (ad 5), .int (nI nv), .int (nI nb), .ref (ad 6), .int (nI nt), .int (nI nf), .ref (ad 7), .int (nI na), .int (nI lv), .ref (ad 8), .int (nI nm)])), (ad 1, .inr (2, [.ref (ad 2)])), (ad 2, .inr (1, [.ref (ad 3)])), (ad 3, .inl (cL, 4160, .inr (.inl w))), (ad 4, .inl (cI, 6, .inl (fun j => nI (vw j)))), (ad 5, .inl (cI, 6, .inl (fun j => nI (vp j)))), (ad 6, .inl (cI, 50, .inl (fun j => nI (tw j)))), (ad 7, .inl (cI, 6, .inl (fun j => nI (ab j)))), (ad 8, .inl (cI, 8, .inl (fun j => nI (am j))))]) ⟨hx, hb, hml, hown, hts⟩ (c_B_termRow l D ka) ⟨callB_of 1 hts (gW wd_267) rfl rfl rfl (hts _ wd_1) (hts _ wd_265) hd_B_termRow ⟨Nat.le_of_ble_eq_true rfl, Nat.le_of_ble_eq_true rfl⟩, hts _ wd_266⟩ XT_ok (fun _ _ _ => trivial) hK hP hD hS hA [] [] [0, 1, 2, 3, 4, 5, 6, 7, 8] [0, 1, 2, 3, 4, 5, 6, 7, 8] rfl rfl rfl rfl rfl (by decide) rfl rfl rfl hl.1 rfl (Nat.le_of_ble_eq_true rfl) d_B_buildBitwise_99 ⟨Nat.zero_le _, Nat.zero_le _⟩ (st1 := [.int (nI (50 + ka * 4)), .int (nI (50 + nt * 4)), .ref (ad 2)]) rfl (fun H locs hP hD hS => ?_)
  refine lv_iload_n hx hb d_B_buildBitwise_102 rfl (lv_at hl 5 rfl) ?_
  refine fn_S (ws' := (bsW ad cL cI nv nb nt nf na lv nm vw vp tw ab am w)) (w1 := (nilW)) (wc := (nilW)) (wr := [(ad 0, .inr (0, [.ref (ad 2), .ref (ad 1), .ref (ad 4), .ref (ad 5), .int (nI nv), .int (nI nb), .ref (ad 6), .int (nI nt), .int (nI nf), .ref (ad 7), .int (nI na), .int (nI lv), .ref (ad 8), .int (nI nm)])), (ad 1, .inr (2, [.ref (ad 2)])), (ad 2, .inr (1, [.ref (ad 3)])), (ad 3, .inl (cL, 4160, .inr (.inl w))), (ad 4, .inl (cI, 6, .inl (fun j => nI (vw j)))), (ad 5, .inl (cI, 6, .inl (fun j => nI (vp j)))), (ad 6, .inl (cI, 50, .inl (fun j => nI (tw j)))), (ad 7, .inl (cI, 6, .inl (fun j => nI (ab j)))), (ad 8, .inl (cI, 8, .inl (fun j => nI (am j))))]) ⟨hx, hb, hml, hown, hts⟩ (c_B_termRow l D kb) ⟨callB_of 1 hts (gW wd_267) rfl rfl rfl (hts _ wd_1) (hts _ wd_265) hd_B_termRow ⟨Nat.le_of_ble_eq_true rfl, Nat.le_of_ble_eq_true rfl⟩, hts _ wd_266⟩ XT_ok (fun _ _ _ => trivial) hK hP hD hS hA [] [] [0, 1, 2, 3, 4, 5, 6, 7, 8] [0, 1, 2, 3, 4, 5, 6, 7, 8] rfl rfl rfl rfl rfl (by decide) rfl rfl rfl hl.1 rfl (Nat.le_of_ble_eq_true rfl) d_B_buildBitwise_103 ⟨Nat.zero_le _, Nat.zero_le _⟩ (st1 := [.int (nI (50 + kb * 4)), .int (nI (50 + ka * 4)), .int (nI (50 + nt * 4)), .ref (ad 2)]) rfl (fun H locs hP hD hS => ?_)
  refine lv_iload hx hb d_B_buildBitwise_106 (lv_at hl 0 rfl) ?_
  refine fn_V (ws' := (bsW ad cL cI nv nb nt nf na lv nm vw vp tw ab am (oXor (50 + nt * 4) (50 + ka * 4) (50 + kb * 4) wd w))) (w1 := (setsW (ad 2) (ad 3) cL (oXor (50 + nt * 4) (50 + ka * 4) (50 + kb * 4) wd w))) (wc := (setsW (ad 2) (ad 3) cL w)) (wr := [(ad 0, .inr (0, [.ref (ad 2), .ref (ad 1), .ref (ad 4), .ref (ad 5), .int (nI nv), .int (nI nb), .ref (ad 6), .int (nI nt), .int (nI nf), .ref (ad 7), .int (nI na), .int (nI lv), .ref (ad 8), .int (nI nm)])), (ad 1, .inr (2, [.ref (ad 2)])), (ad 4, .inl (cI, 6, .inl (fun j => nI (vw j)))), (ad 5, .inl (cI, 6, .inl (fun j => nI (vp j)))), (ad 6, .inl (cI, 50, .inl (fun j => nI (tw j)))), (ad 7, .inl (cI, 6, .inl (fun j => nI (ab j)))), (ad 8, .inl (cI, 8, .inl (fun j => nI (am j))))]) ⟨hx, hb, hml, hown, hts⟩ (c_S_exclusive l D (ad 2) (ad 3) cL w (50 + nt * 4) (50 + ka * 4) (50 + kb * 4) wd (by omega) (by omega) (by omega) (by omega) (by omega)) ⟨callB_of 4 hts (gW wd_297) rfl rfl rfl (hts _ wd_3) (hts _ wd_320) hd_S_exclusive ⟨Nat.le_of_ble_eq_true rfl, Nat.le_of_ble_eq_true rfl⟩, hts _ wd_295, hts _ wd_296⟩ XT_ok (fun _ _ _ => trivial) hK hP hD hS hA 2 1 rfl rfl rfl [0] [2, 3] [0, 1, 4, 5, 6, 7, 8] [0, 1, 7, 8, 2, 3, 4, 5, 6] rfl rfl rfl rfl rfl (by decide) rfl rfl rfl hl.1 rfl (Nat.le_of_ble_eq_true rfl) d_B_buildBitwise_108 ⟨Nat.zero_le _, Nat.zero_le _⟩ (st1 := []) rfl (fun H locs hP hD hS => ?_)
  refine lv_goto (tgt := 129) hx hb d_B_buildBitwise_111 (by decide) ?_
  exact fn_vret hx hb hr hlocks hAe hK hP hD hS d_B_buildBitwise_129
set_option maxHeartbeats 4000000 in
set_option maxRecDepth 100000 in
theorem c_B_buildBitwise_8 (l : Launch) (D : va_G) (ad : Nat → Nat) (cL cI : ClassId) (nv nb nt nf na lv nm : Nat) (vw vp tw ab am : Nat → Nat) (w : Nat → Int64) (hok : Bok nv nb nt nf na lv nm vw vp tw ab am) (ka : Nat) (kb : Int32) (ha : ka < nt) (wd : Nat) (hwd : tw nt = wd) (h1 : 1 ≤ wd) (h4 : wd ≤ 4) (hnt : nt < 50)  : Fn l y_B_buildBitwise (wk y_B_buildBitwise b_B_buildBitwise 6 none) rm_B_buildBitwise D cls [(cL, .long), (cI, .int)] [.ref (ad 0), .int (nI 8), .int (nI ka), .int kb] (bsW ad cL cI nv nb nt nf na lv nm vw vp tw ab am w) XT none (bsW ad cL cI nv nb nt nf na lv nm vw vp tw ab am (oTurn (50 + nt * 4) (50 + ka * 4) wd w)) := by
  refine Fn.of (by decide) rfl (Nat.le_of_ble_eq_true rfl) ?_
  intro p e s m below meth c A ls hx hb hml hr hts0 hown hlocks hnm hP hK hD hS hA hAe hX hl
  have hts : ∀ w ∈ lw_ok, w.before _ s = true := fun w h => hts0 w (List.mem_cons_of_mem _ h)
  have hown : s.vm.findClass R_B = some m.cls := hown
  have hP : va_P D cls (bsW ad cL cI nv nb nt nf na lv nm vw vp tw ab am w) s.heap := hP
  have hl : lv_has ls 6 [(0, .ref (ad 0)), (1, .int (nI 8)), (2, .int (nI ka)), (3, .int kb)] := hl
  obtain ⟨o_nv, o_nb, o_nt, o_nf, o_na, o_lv, o_nm, o_vw, o_tw, o_am, o_ab⟩ := id hok
  refine lv_aload_n hx hb d_B_buildBitwise_0 rfl (lv_at hl 0 rfl) ?_
  refine va_get (D := D) (ci := 0) (v := .int (nI nt)) (C := R_B) (T := F_B) (N := 14) hx hb hts in_B hown hK hP 0 rfl rfl 7 (by decide) (hts _ wd_54) (fun _ h9 => h9) rfl d_B_buildBitwise_1 ?_
  refine fn_S (ws' := (bsW ad cL cI nv nb nt nf na lv nm vw vp tw ab am w)) (w1 := (nilW)) (wc := (nilW)) (wr := [(ad 0, .inr (0, [.ref (ad 2), .ref (ad 1), .ref (ad 4), .ref (ad 5), .int (nI nv), .int (nI nb), .ref (ad 6), .int (nI nt), .int (nI nf), .ref (ad 7), .int (nI na), .int (nI lv), .ref (ad 8), .int (nI nm)])), (ad 1, .inr (2, [.ref (ad 2)])), (ad 2, .inr (1, [.ref (ad 3)])), (ad 3, .inl (cL, 4160, .inr (.inl w))), (ad 4, .inl (cI, 6, .inl (fun j => nI (vw j)))), (ad 5, .inl (cI, 6, .inl (fun j => nI (vp j)))), (ad 6, .inl (cI, 50, .inl (fun j => nI (tw j)))), (ad 7, .inl (cI, 6, .inl (fun j => nI (ab j)))), (ad 8, .inl (cI, 8, .inl (fun j => nI (am j))))]) ⟨hx, hb, hml, hown, hts⟩ (c_B_termRow l D nt) ⟨callB_of 1 hts (gW wd_267) rfl rfl rfl (hts _ wd_1) (hts _ wd_265) hd_B_termRow ⟨Nat.le_of_ble_eq_true rfl, Nat.le_of_ble_eq_true rfl⟩, hts _ wd_266⟩ XT_ok (fun _ _ _ => trivial) hK hP hD hS hA [] [] [0, 1, 2, 3, 4, 5, 6, 7, 8] [0, 1, 2, 3, 4, 5, 6, 7, 8] rfl rfl rfl rfl rfl (by decide) rfl rfl rfl hl.1 rfl (Nat.le_of_ble_eq_true rfl) d_B_buildBitwise_4 ⟨Nat.zero_le _, Nat.zero_le _⟩ (st1 := [.int (nI (50 + nt * 4))]) rfl (fun H locs hP hD hS => ?_)
  refine lv_istore (lv' := [(4, .int (nI (50 + nt * 4))), (0, .ref (ad 0)), (1, .int (nI 8)), (2, .int (nI ka)), (3, .int kb)]) hx hb d_B_buildBitwise_7 hl (by decide) rfl (fun ls hl => ?_)
  refine lv_aload_n hx hb d_B_buildBitwise_9 rfl (lv_at hl 1 rfl) ?_
  refine va_get (D := D) (ci := 0) (v := .ref (ad 6)) (C := R_B) (T := F_B) (N := 14) hx hb hts in_B hown hK hP 0 rfl rfl 6 (by decide) (hts _ wd_53) (fun _ h9 => h9) rfl d_B_buildBitwise_10 ?_
  refine lv_aload_n hx hb d_B_buildBitwise_13 rfl (lv_at hl 1 rfl) ?_
  refine va_get (D := D) (ci := 0) (v := .int (nI nt)) (C := R_B) (T := F_B) (N := 14) hx hb hts in_B hown hK hP 0 rfl rfl 7 (by decide) (hts _ wd_54) (fun _ h9 => h9) rfl d_B_buildBitwise_14 ?_
  refine n_iald hx hb hK hP 6 1 rfl rfl (i := nt) (by omega) (by omega) d_B_buildBitwise_17 ?_
  rw [hwd]
  refine lv_istore (lv' := [(5, .int (nI wd)), (4, .int (nI (50 + nt * 4))), (0, .ref (ad 0)), (1, .int (nI 8)), (2, .int (nI ka)), (3, .int kb)]) hx hb d_B_buildBitwise_18 hl (by decide) rfl (fun ls hl => ?_)
  refine lv_iload_n hx hb d_B_buildBitwise_20 rfl (lv_at hl 3 rfl) ?_
  refine lv_tableOut (tgt := 114) hx hb d_B_buildBitwise_21 (by decide +kernel) (by decide) ?_
  refine lv_aload_n hx hb d_B_buildBitwise_114 rfl (lv_at hl 2 rfl) ?_
  refine va_get (D := D) (ci := 0) (v := .ref (ad 2)) (C := R_B) (T := F_B) (N := 14) hx hb hts in_B hown hK hP 0 rfl rfl 0 (by decide) (hts _ wd_47) (fun _ h9 => h9) rfl d_B_buildBitwise_115 ?_
  refine lv_iload hx hb d_B_buildBitwise_118 (lv_at hl 1 rfl) ?_
  refine lv_iload_n hx hb d_B_buildBitwise_120 rfl (lv_at hl 4 rfl) ?_
  refine fn_S (ws' := (bsW ad cL cI nv nb nt nf na lv nm vw vp tw ab am w)) (w1 := (nilW)) (wc := (nilW)) (wr := [(ad 0, .inr (0, [.ref (ad 2), .ref (ad 1), .ref (ad 4), .ref (ad 5), .int (nI nv), .int (nI nb), .ref (ad 6), .int (nI nt), .int (nI nf), .ref (ad 7), .int (nI na), .int (nI lv), .ref (ad 8), .int (nI nm)])), (ad 1, .inr (2, [.ref (ad 2)])), (ad 2, .inr (1, [.ref (ad 3)])), (ad 3, .inl (cL, 4160, .inr (.inl w))), (ad 4, .inl (cI, 6, .inl (fun j => nI (vw j)))), (ad 5, .inl (cI, 6, .inl (fun j => nI (vp j)))), (ad 6, .inl (cI, 50, .inl (fun j => nI (tw j)))), (ad 7, .inl (cI, 6, .inl (fun j => nI (ab j)))), (ad 8, .inl (cI, 8, .inl (fun j => nI (am j))))]) ⟨hx, hb, hml, hown, hts⟩ (c_B_termRow l D ka) ⟨callB_of 1 hts (gW wd_267) rfl rfl rfl (hts _ wd_1) (hts _ wd_265) hd_B_termRow ⟨Nat.le_of_ble_eq_true rfl, Nat.le_of_ble_eq_true rfl⟩, hts _ wd_266⟩ XT_ok (fun _ _ _ => trivial) hK hP hD hS hA [] [] [0, 1, 2, 3, 4, 5, 6, 7, 8] [0, 1, 2, 3, 4, 5, 6, 7, 8] rfl rfl rfl rfl rfl (by decide) rfl rfl rfl hl.1 rfl (Nat.le_of_ble_eq_true rfl) d_B_buildBitwise_121 ⟨Nat.zero_le _, Nat.zero_le _⟩ (st1 := [.int (nI (50 + ka * 4)), .int (nI (50 + nt * 4)), .ref (ad 2)]) rfl (fun H locs hP hD hS => ?_)
  refine lv_iload hx hb d_B_buildBitwise_124 (lv_at hl 0 rfl) ?_
  refine fn_V (ws' := (bsW ad cL cI nv nb nt nf na lv nm vw vp tw ab am (oTurn (50 + nt * 4) (50 + ka * 4) wd w))) (w1 := (setsW (ad 2) (ad 3) cL (oTurn (50 + nt * 4) (50 + ka * 4) wd w))) (wc := (setsW (ad 2) (ad 3) cL w)) (wr := [(ad 0, .inr (0, [.ref (ad 2), .ref (ad 1), .ref (ad 4), .ref (ad 5), .int (nI nv), .int (nI nb), .ref (ad 6), .int (nI nt), .int (nI nf), .ref (ad 7), .int (nI na), .int (nI lv), .ref (ad 8), .int (nI nm)])), (ad 1, .inr (2, [.ref (ad 2)])), (ad 4, .inl (cI, 6, .inl (fun j => nI (vw j)))), (ad 5, .inl (cI, 6, .inl (fun j => nI (vp j)))), (ad 6, .inl (cI, 50, .inl (fun j => nI (tw j)))), (ad 7, .inl (cI, 6, .inl (fun j => nI (ab j)))), (ad 8, .inl (cI, 8, .inl (fun j => nI (am j))))]) ⟨hx, hb, hml, hown, hts⟩ (c_S_turn l D (ad 2) (ad 3) cL w (50 + nt * 4) (50 + ka * 4) wd (by omega) (by omega) (by omega)) ⟨callB_of 3 hts (gW wd_310) rfl rfl rfl (hts _ wd_3) (hts _ wd_321) hd_S_turn ⟨Nat.le_of_ble_eq_true rfl, Nat.le_of_ble_eq_true rfl⟩, hts _ wd_308, hts _ wd_309⟩ XT_ok (fun _ _ _ => trivial) hK hP hD hS hA 2 1 rfl rfl rfl [0] [2, 3] [0, 1, 4, 5, 6, 7, 8] [0, 1, 7, 8, 2, 3, 4, 5, 6] rfl rfl rfl rfl rfl (by decide) rfl rfl rfl hl.1 rfl (Nat.le_of_ble_eq_true rfl) d_B_buildBitwise_126 ⟨Nat.zero_le _, Nat.zero_le _⟩ (st1 := []) rfl (fun H locs hP hD hS => ?_)
  exact fn_vret hx hb hr hlocks hAe hK hP hD hS d_B_buildBitwise_129
set_option maxHeartbeats 4000000 in
set_option maxRecDepth 100000 in
theorem c_B_buildArranged_9 (l : Launch) (D : va_G) (ad : Nat → Nat) (cL cI : ClassId) (nv nb nt nf na lv nm : Nat) (vw vp tw ab am : Nat → Nat) (w : Nat → Int64) (hok : Bok nv nb nt nf na lv nm vw vp tw ab am) (ka kb : Nat) (kc : Int32) (ha : ka < nt) (hb2 : kb ≤ 4) (wd : Nat) (hwd : tw nt = wd) (h1 : 1 ≤ wd) (h4 : wd ≤ 4) (hnt : nt < 50)  : Fn l y_B_buildArranged (wk y_B_buildArranged b_B_buildArranged 7 none) rm_B_buildArranged D cls [(cL, .long), (cI, .int)] [.ref (ad 0), .int (nI 9), .int (nI ka), .int (nI kb), .int kc] (bsW ad cL cI nv nb nt nf na lv nm vw vp tw ab am w) XT none (bsW ad cL cI nv nb nt nf na lv nm vw vp tw ab am (cUpN (50 + nt * 4) (50 + ka * 4) kb wd w)) := by
  refine Fn.of (by decide) rfl (Nat.le_of_ble_eq_true rfl) ?_
  intro p e s m below meth c A ls hx hb hml hr hts0 hown hlocks hnm hP hK hD hS hA hAe hX hl
  have hts : ∀ w ∈ lw_ok, w.before _ s = true := fun w h => hts0 w (List.mem_cons_of_mem _ h)
  have hown : s.vm.findClass R_B = some m.cls := hown
  have hP : va_P D cls (bsW ad cL cI nv nb nt nf na lv nm vw vp tw ab am w) s.heap := hP
  have hl : lv_has ls 7 [(0, .ref (ad 0)), (1, .int (nI 9)), (2, .int (nI ka)), (3, .int (nI kb)), (4, .int kc)] := hl
  obtain ⟨o_nv, o_nb, o_nt, o_nf, o_na, o_lv, o_nm, o_vw, o_tw, o_am, o_ab⟩ := id hok
  refine lv_aload_n hx hb d_B_buildArranged_0 rfl (lv_at hl 0 rfl) ?_
  refine va_get (D := D) (ci := 0) (v := .int (nI nt)) (C := R_B) (T := F_B) (N := 14) hx hb hts in_B hown hK hP 0 rfl rfl 7 (by decide) (hts _ wd_54) (fun _ h9 => h9) rfl d_B_buildArranged_1 ?_
  refine fn_S (ws' := (bsW ad cL cI nv nb nt nf na lv nm vw vp tw ab am w)) (w1 := (nilW)) (wc := (nilW)) (wr := [(ad 0, .inr (0, [.ref (ad 2), .ref (ad 1), .ref (ad 4), .ref (ad 5), .int (nI nv), .int (nI nb), .ref (ad 6), .int (nI nt), .int (nI nf), .ref (ad 7), .int (nI na), .int (nI lv), .ref (ad 8), .int (nI nm)])), (ad 1, .inr (2, [.ref (ad 2)])), (ad 2, .inr (1, [.ref (ad 3)])), (ad 3, .inl (cL, 4160, .inr (.inl w))), (ad 4, .inl (cI, 6, .inl (fun j => nI (vw j)))), (ad 5, .inl (cI, 6, .inl (fun j => nI (vp j)))), (ad 6, .inl (cI, 50, .inl (fun j => nI (tw j)))), (ad 7, .inl (cI, 6, .inl (fun j => nI (ab j)))), (ad 8, .inl (cI, 8, .inl (fun j => nI (am j))))]) ⟨hx, hb, hml, hown, hts⟩ (c_B_termRow l D nt) ⟨callB_of 1 hts (gW wd_267) rfl rfl rfl (hts _ wd_1) (hts _ wd_265) hd_B_termRow ⟨Nat.le_of_ble_eq_true rfl, Nat.le_of_ble_eq_true rfl⟩, hts _ wd_266⟩ XT_ok (fun _ _ _ => trivial) hK hP hD hS hA [] [] [0, 1, 2, 3, 4, 5, 6, 7, 8] [0, 1, 2, 3, 4, 5, 6, 7, 8] rfl rfl rfl rfl rfl (by decide) rfl rfl rfl hl.1 rfl (Nat.le_of_ble_eq_true rfl) d_B_buildArranged_4 ⟨Nat.zero_le _, Nat.zero_le _⟩ (st1 := [.int (nI (50 + nt * 4))]) rfl (fun H locs hP hD hS => ?_)
  refine lv_istore (lv' := [(5, .int (nI (50 + nt * 4))), (0, .ref (ad 0)), (1, .int (nI 9)), (2, .int (nI ka)), (3, .int (nI kb)), (4, .int kc)]) hx hb d_B_buildArranged_7 hl (by decide) rfl (fun ls hl => ?_)
  refine lv_aload_n hx hb d_B_buildArranged_9 rfl (lv_at hl 1 rfl) ?_
  refine va_get (D := D) (ci := 0) (v := .ref (ad 6)) (C := R_B) (T := F_B) (N := 14) hx hb hts in_B hown hK hP 0 rfl rfl 6 (by decide) (hts _ wd_53) (fun _ h9 => h9) rfl d_B_buildArranged_10 ?_
  refine lv_aload_n hx hb d_B_buildArranged_13 rfl (lv_at hl 1 rfl) ?_
  refine va_get (D := D) (ci := 0) (v := .int (nI nt)) (C := R_B) (T := F_B) (N := 14) hx hb hts in_B hown hK hP 0 rfl rfl 7 (by decide) (hts _ wd_54) (fun _ h9 => h9) rfl d_B_buildArranged_14 ?_
  refine n_iald hx hb hK hP 6 1 rfl rfl (i := nt) (by omega) (by omega) d_B_buildArranged_17 ?_
  rw [hwd]
  refine lv_istore (lv' := [(6, .int (nI wd)), (5, .int (nI (50 + nt * 4))), (0, .ref (ad 0)), (1, .int (nI 9)), (2, .int (nI ka)), (3, .int (nI kb)), (4, .int kc)]) hx hb d_B_buildArranged_18 hl (by decide) rfl (fun ls hl => ?_)
  refine lv_iload_n hx hb d_B_buildArranged_20 rfl (lv_at hl 3 rfl) ?_
  refine lv_tableIn (tgt := 56) (off := 35) hx hb d_B_buildArranged_21 (by decide +kernel) (by decide +kernel) (by decide +kernel) (by decide) ?_
  refine lv_aload_n hx hb d_B_buildArranged_56 rfl (lv_at hl 2 rfl) ?_
  refine va_get (D := D) (ci := 0) (v := .ref (ad 1)) (C := R_B) (T := F_B) (N := 14) hx hb hts in_B hown hK hP 0 rfl rfl 1 (by decide) (hts _ wd_48) (fun _ h9 => h9) rfl d_B_buildArranged_57 ?_
  refine lv_iload hx hb d_B_buildArranged_60 (lv_at hl 1 rfl) ?_
  refine lv_iload_n hx hb d_B_buildArranged_62 rfl (lv_at hl 4 rfl) ?_
  refine fn_S (ws' := (bsW ad cL cI nv nb nt nf na lv nm vw vp tw ab am w)) (w1 := (nilW)) (wc := (nilW)) (wr := [(ad 0, .inr (0, [.ref (ad 2), .ref (ad 1), .ref (ad 4), .ref (ad 5), .int (nI nv), .int (nI nb), .ref (ad 6), .int (nI nt), .int (nI nf), .ref (ad 7), .int (nI na), .int (nI lv), .ref (ad 8), .int (nI nm)])), (ad 1, .inr (2, [.ref (ad 2)])), (ad 2, .inr (1, [.ref (ad 3)])), (ad 3, .inl (cL, 4160, .inr (.inl w))), (ad 4, .inl (cI, 6, .inl (fun j => nI (vw j)))), (ad 5, .inl (cI, 6, .inl (fun j => nI (vp j)))), (ad 6, .inl (cI, 50, .inl (fun j => nI (tw j)))), (ad 7, .inl (cI, 6, .inl (fun j => nI (ab j)))), (ad 8, .inl (cI, 8, .inl (fun j => nI (am j))))]) ⟨hx, hb, hml, hown, hts⟩ (c_B_termRow l D ka) ⟨callB_of 1 hts (gW wd_267) rfl rfl rfl (hts _ wd_1) (hts _ wd_265) hd_B_termRow ⟨Nat.le_of_ble_eq_true rfl, Nat.le_of_ble_eq_true rfl⟩, hts _ wd_266⟩ XT_ok (fun _ _ _ => trivial) hK hP hD hS hA [] [] [0, 1, 2, 3, 4, 5, 6, 7, 8] [0, 1, 2, 3, 4, 5, 6, 7, 8] rfl rfl rfl rfl rfl (by decide) rfl rfl rfl hl.1 rfl (Nat.le_of_ble_eq_true rfl) d_B_buildArranged_63 ⟨Nat.zero_le _, Nat.zero_le _⟩ (st1 := [.int (nI (50 + ka * 4)), .int (nI (50 + nt * 4)), .ref (ad 1)]) rfl (fun H locs hP hD hS => ?_)
  refine lv_iload hx hb d_B_buildArranged_66 (lv_at hl 0 rfl) ?_
  refine lv_iload_n hx hb d_B_buildArranged_68 rfl (lv_at hl 5 rfl) ?_
  refine fn_V (ws' := (bsW ad cL cI nv nb nt nf na lv nm vw vp tw ab am (cUpN (50 + nt * 4) (50 + ka * 4) kb wd w))) (w1 := (circW (ad 1) (ad 2) (ad 3) cL (cUpN (50 + nt * 4) (50 + ka * 4) kb wd w))) (wc := (circW (ad 1) (ad 2) (ad 3) cL w)) (wr := [(ad 0, .inr (0, [.ref (ad 2), .ref (ad 1), .ref (ad 4), .ref (ad 5), .int (nI nv), .int (nI nb), .ref (ad 6), .int (nI nt), .int (nI nf), .ref (ad 7), .int (nI na), .int (nI lv), .ref (ad 8), .int (nI nm)])), (ad 4, .inl (cI, 6, .inl (fun j => nI (vw j)))), (ad 5, .inl (cI, 6, .inl (fun j => nI (vp j)))), (ad 6, .inl (cI, 50, .inl (fun j => nI (tw j)))), (ad 7, .inl (cI, 6, .inl (fun j => nI (ab j)))), (ad 8, .inl (cI, 8, .inl (fun j => nI (am j))))]) ⟨hx, hb, hml, hown, hts⟩ (c_C_moveUp l D (ad 1) (ad 2) (ad 3) cL w (50 + nt * 4) (50 + ka * 4) wd kb (by omega) (by omega) (by omega)) ⟨callB_of 4 hts (gW wd_329) rfl rfl rfl (hts _ wd_2) (hts _ wd_326) hd_C_moveUp ⟨Nat.le_of_ble_eq_true rfl, Nat.le_of_ble_eq_true rfl⟩, hts _ wd_327, hts _ wd_328⟩ XT_ok (fun _ _ _ => trivial) hK hP hD hS hA 1 2 rfl rfl rfl [0] [1, 2, 3] [0, 4, 5, 6, 7, 8] [0, 6, 7, 8, 1, 2, 3, 4, 5] rfl rfl rfl rfl rfl (by decide) rfl rfl rfl hl.1 rfl (Nat.le_of_ble_eq_true rfl) d_B_buildArranged_69 ⟨Nat.zero_le _, Nat.zero_le _⟩ (st1 := []) rfl (fun H locs hP hD hS => ?_)
  refine lv_goto (tgt := 204) hx hb d_B_buildArranged_72 (by decide) ?_
  exact fn_vret hx hb hr hlocks hAe hK hP hD hS d_B_buildArranged_204
set_option maxHeartbeats 4000000 in
set_option maxRecDepth 100000 in
theorem c_B_buildArranged_10 (l : Launch) (D : va_G) (ad : Nat → Nat) (cL cI : ClassId) (nv nb nt nf na lv nm : Nat) (vw vp tw ab am : Nat → Nat) (w : Nat → Int64) (hok : Bok nv nb nt nf na lv nm vw vp tw ab am) (ka kb : Nat) (kc : Int32) (ha : ka < nt) (hb2 : kb ≤ 4) (wd : Nat) (hwd : tw nt = wd) (h1 : 1 ≤ wd) (h4 : wd ≤ 4) (hnt : nt < 50)  : Fn l y_B_buildArranged (wk y_B_buildArranged b_B_buildArranged 7 none) rm_B_buildArranged D cls [(cL, .long), (cI, .int)] [.ref (ad 0), .int (nI 10), .int (nI ka), .int (nI kb), .int kc] (bsW ad cL cI nv nb nt nf na lv nm vw vp tw ab am w) XT none (bsW ad cL cI nv nb nt nf na lv nm vw vp tw ab am (cDownN (50 + nt * 4) (50 + ka * 4) wd kb false wd w)) := by
  refine Fn.of (by decide) rfl (Nat.le_of_ble_eq_true rfl) ?_
  intro p e s m below meth c A ls hx hb hml hr hts0 hown hlocks hnm hP hK hD hS hA hAe hX hl
  have hts : ∀ w ∈ lw_ok, w.before _ s = true := fun w h => hts0 w (List.mem_cons_of_mem _ h)
  have hown : s.vm.findClass R_B = some m.cls := hown
  have hP : va_P D cls (bsW ad cL cI nv nb nt nf na lv nm vw vp tw ab am w) s.heap := hP
  have hl : lv_has ls 7 [(0, .ref (ad 0)), (1, .int (nI 10)), (2, .int (nI ka)), (3, .int (nI kb)), (4, .int kc)] := hl
  obtain ⟨o_nv, o_nb, o_nt, o_nf, o_na, o_lv, o_nm, o_vw, o_tw, o_am, o_ab⟩ := id hok
  refine lv_aload_n hx hb d_B_buildArranged_0 rfl (lv_at hl 0 rfl) ?_
  refine va_get (D := D) (ci := 0) (v := .int (nI nt)) (C := R_B) (T := F_B) (N := 14) hx hb hts in_B hown hK hP 0 rfl rfl 7 (by decide) (hts _ wd_54) (fun _ h9 => h9) rfl d_B_buildArranged_1 ?_
  refine fn_S (ws' := (bsW ad cL cI nv nb nt nf na lv nm vw vp tw ab am w)) (w1 := (nilW)) (wc := (nilW)) (wr := [(ad 0, .inr (0, [.ref (ad 2), .ref (ad 1), .ref (ad 4), .ref (ad 5), .int (nI nv), .int (nI nb), .ref (ad 6), .int (nI nt), .int (nI nf), .ref (ad 7), .int (nI na), .int (nI lv), .ref (ad 8), .int (nI nm)])), (ad 1, .inr (2, [.ref (ad 2)])), (ad 2, .inr (1, [.ref (ad 3)])), (ad 3, .inl (cL, 4160, .inr (.inl w))), (ad 4, .inl (cI, 6, .inl (fun j => nI (vw j)))), (ad 5, .inl (cI, 6, .inl (fun j => nI (vp j)))), (ad 6, .inl (cI, 50, .inl (fun j => nI (tw j)))), (ad 7, .inl (cI, 6, .inl (fun j => nI (ab j)))), (ad 8, .inl (cI, 8, .inl (fun j => nI (am j))))]) ⟨hx, hb, hml, hown, hts⟩ (c_B_termRow l D nt) ⟨callB_of 1 hts (gW wd_267) rfl rfl rfl (hts _ wd_1) (hts _ wd_265) hd_B_termRow ⟨Nat.le_of_ble_eq_true rfl, Nat.le_of_ble_eq_true rfl⟩, hts _ wd_266⟩ XT_ok (fun _ _ _ => trivial) hK hP hD hS hA [] [] [0, 1, 2, 3, 4, 5, 6, 7, 8] [0, 1, 2, 3, 4, 5, 6, 7, 8] rfl rfl rfl rfl rfl (by decide) rfl rfl rfl hl.1 rfl (Nat.le_of_ble_eq_true rfl) d_B_buildArranged_4 ⟨Nat.zero_le _, Nat.zero_le _⟩ (st1 := [.int (nI (50 + nt * 4))]) rfl (fun H locs hP hD hS => ?_)
  refine lv_istore (lv' := [(5, .int (nI (50 + nt * 4))), (0, .ref (ad 0)), (1, .int (nI 10)), (2, .int (nI ka)), (3, .int (nI kb)), (4, .int kc)]) hx hb d_B_buildArranged_7 hl (by decide) rfl (fun ls hl => ?_)
  refine lv_aload_n hx hb d_B_buildArranged_9 rfl (lv_at hl 1 rfl) ?_
  refine va_get (D := D) (ci := 0) (v := .ref (ad 6)) (C := R_B) (T := F_B) (N := 14) hx hb hts in_B hown hK hP 0 rfl rfl 6 (by decide) (hts _ wd_53) (fun _ h9 => h9) rfl d_B_buildArranged_10 ?_
  refine lv_aload_n hx hb d_B_buildArranged_13 rfl (lv_at hl 1 rfl) ?_
  refine va_get (D := D) (ci := 0) (v := .int (nI nt)) (C := R_B) (T := F_B) (N := 14) hx hb hts in_B hown hK hP 0 rfl rfl 7 (by decide) (hts _ wd_54) (fun _ h9 => h9) rfl d_B_buildArranged_14 ?_
  refine n_iald hx hb hK hP 6 1 rfl rfl (i := nt) (by omega) (by omega) d_B_buildArranged_17 ?_
  rw [hwd]
  refine lv_istore (lv' := [(6, .int (nI wd)), (5, .int (nI (50 + nt * 4))), (0, .ref (ad 0)), (1, .int (nI 10)), (2, .int (nI ka)), (3, .int (nI kb)), (4, .int kc)]) hx hb d_B_buildArranged_18 hl (by decide) rfl (fun ls hl => ?_)
  refine lv_iload_n hx hb d_B_buildArranged_20 rfl (lv_at hl 3 rfl) ?_
  refine lv_tableIn (tgt := 75) (off := 54) hx hb d_B_buildArranged_21 (by decide +kernel) (by decide +kernel) (by decide +kernel) (by decide) ?_
  refine lv_aload_n hx hb d_B_buildArranged_75 rfl (lv_at hl 2 rfl) ?_
  refine va_get (D := D) (ci := 0) (v := .ref (ad 1)) (C := R_B) (T := F_B) (N := 14) hx hb hts in_B hown hK hP 0 rfl rfl 1 (by decide) (hts _ wd_48) (fun _ h9 => h9) rfl d_B_buildArranged_76 ?_
  refine lv_iload hx hb d_B_buildArranged_79 (lv_at hl 1 rfl) ?_
  refine lv_iload_n hx hb d_B_buildArranged_81 rfl (lv_at hl 4 rfl) ?_
  refine fn_S (ws' := (bsW ad cL cI nv nb nt nf na lv nm vw vp tw ab am w)) (w1 := (nilW)) (wc := (nilW)) (wr := [(ad 0, .inr (0, [.ref (ad 2), .ref (ad 1), .ref (ad 4), .ref (ad 5), .int (nI nv), .int (nI nb), .ref (ad 6), .int (nI nt), .int (nI nf), .ref (ad 7), .int (nI na), .int (nI lv), .ref (ad 8), .int (nI nm)])), (ad 1, .inr (2, [.ref (ad 2)])), (ad 2, .inr (1, [.ref (ad 3)])), (ad 3, .inl (cL, 4160, .inr (.inl w))), (ad 4, .inl (cI, 6, .inl (fun j => nI (vw j)))), (ad 5, .inl (cI, 6, .inl (fun j => nI (vp j)))), (ad 6, .inl (cI, 50, .inl (fun j => nI (tw j)))), (ad 7, .inl (cI, 6, .inl (fun j => nI (ab j)))), (ad 8, .inl (cI, 8, .inl (fun j => nI (am j))))]) ⟨hx, hb, hml, hown, hts⟩ (c_B_termRow l D ka) ⟨callB_of 1 hts (gW wd_267) rfl rfl rfl (hts _ wd_1) (hts _ wd_265) hd_B_termRow ⟨Nat.le_of_ble_eq_true rfl, Nat.le_of_ble_eq_true rfl⟩, hts _ wd_266⟩ XT_ok (fun _ _ _ => trivial) hK hP hD hS hA [] [] [0, 1, 2, 3, 4, 5, 6, 7, 8] [0, 1, 2, 3, 4, 5, 6, 7, 8] rfl rfl rfl rfl rfl (by decide) rfl rfl rfl hl.1 rfl (Nat.le_of_ble_eq_true rfl) d_B_buildArranged_82 ⟨Nat.zero_le _, Nat.zero_le _⟩ (st1 := [.int (nI (50 + ka * 4)), .int (nI (50 + nt * 4)), .ref (ad 1)]) rfl (fun H locs hP hD hS => ?_)
  refine lv_iload hx hb d_B_buildArranged_85 (lv_at hl 0 rfl) ?_
  refine lv_iload_n hx hb d_B_buildArranged_87 rfl (lv_at hl 5 rfl) ?_
  refine lv_iconst (v := nI 0) hx hb d_B_buildArranged_88 (by decide) ?_
  refine fn_V (ws' := (bsW ad cL cI nv nb nt nf na lv nm vw vp tw ab am (cDownN (50 + nt * 4) (50 + ka * 4) wd kb false wd w))) (w1 := (circW (ad 1) (ad 2) (ad 3) cL (cDownN (50 + nt * 4) (50 + ka * 4) wd kb false wd w))) (wc := (circW (ad 1) (ad 2) (ad 3) cL w)) (wr := [(ad 0, .inr (0, [.ref (ad 2), .ref (ad 1), .ref (ad 4), .ref (ad 5), .int (nI nv), .int (nI nb), .ref (ad 6), .int (nI nt), .int (nI nf), .ref (ad 7), .int (nI na), .int (nI lv), .ref (ad 8), .int (nI nm)])), (ad 4, .inl (cI, 6, .inl (fun j => nI (vw j)))), (ad 5, .inl (cI, 6, .inl (fun j => nI (vp j)))), (ad 6, .inl (cI, 50, .inl (fun j => nI (tw j)))), (ad 7, .inl (cI, 6, .inl (fun j => nI (ab j)))), (ad 8, .inl (cI, 8, .inl (fun j => nI (am j))))]) ⟨hx, hb, hml, hown, hts⟩ (c_C_moveDown l D (ad 1) (ad 2) (ad 3) cL w (50 + nt * 4) (50 + ka * 4) wd kb false (by omega) (by omega) (by omega)) ⟨callB_of 5 hts (gW wd_334) rfl rfl rfl (hts _ wd_2) (hts _ wd_331) hd_C_moveDown ⟨Nat.le_of_ble_eq_true rfl, Nat.le_of_ble_eq_true rfl⟩, hts _ wd_332, hts _ wd_333⟩ XT_ok (fun _ _ _ => trivial) hK hP hD hS hA 1 2 rfl rfl rfl [0] [1, 2, 3] [0, 4, 5, 6, 7, 8] [0, 6, 7, 8, 1, 2, 3, 4, 5] rfl rfl rfl rfl rfl (by decide) rfl rfl rfl hl.1 rfl (Nat.le_of_ble_eq_true rfl) d_B_buildArranged_89 ⟨Nat.zero_le _, Nat.zero_le _⟩ (st1 := []) rfl (fun H locs hP hD hS => ?_)
  refine lv_goto (tgt := 204) hx hb d_B_buildArranged_92 (by decide) ?_
  exact fn_vret hx hb hr hlocks hAe hK hP hD hS d_B_buildArranged_204
set_option maxHeartbeats 4000000 in
set_option maxRecDepth 100000 in
theorem c_B_buildArranged_11 (l : Launch) (D : va_G) (ad : Nat → Nat) (cL cI : ClassId) (nv nb nt nf na lv nm : Nat) (vw vp tw ab am : Nat → Nat) (w : Nat → Int64) (hok : Bok nv nb nt nf na lv nm vw vp tw ab am) (ka kb : Nat) (kc : Int32) (ha : ka < nt) (hb2 : kb ≤ 4) (wd : Nat) (hwd : tw nt = wd) (h1 : 1 ≤ wd) (h4 : wd ≤ 4) (hnt : nt < 50)  : Fn l y_B_buildArranged (wk y_B_buildArranged b_B_buildArranged 7 none) rm_B_buildArranged D cls [(cL, .long), (cI, .int)] [.ref (ad 0), .int (nI 11), .int (nI ka), .int (nI kb), .int kc] (bsW ad cL cI nv nb nt nf na lv nm vw vp tw ab am w) XT none (bsW ad cL cI nv nb nt nf na lv nm vw vp tw ab am (cDownN (50 + nt * 4) (50 + ka * 4) wd kb true wd w)) := by
  refine Fn.of (by decide) rfl (Nat.le_of_ble_eq_true rfl) ?_
  intro p e s m below meth c A ls hx hb hml hr hts0 hown hlocks hnm hP hK hD hS hA hAe hX hl
  have hts : ∀ w ∈ lw_ok, w.before _ s = true := fun w h => hts0 w (List.mem_cons_of_mem _ h)
  have hown : s.vm.findClass R_B = some m.cls := hown
  have hP : va_P D cls (bsW ad cL cI nv nb nt nf na lv nm vw vp tw ab am w) s.heap := hP
  have hl : lv_has ls 7 [(0, .ref (ad 0)), (1, .int (nI 11)), (2, .int (nI ka)), (3, .int (nI kb)), (4, .int kc)] := hl
  obtain ⟨o_nv, o_nb, o_nt, o_nf, o_na, o_lv, o_nm, o_vw, o_tw, o_am, o_ab⟩ := id hok
  refine lv_aload_n hx hb d_B_buildArranged_0 rfl (lv_at hl 0 rfl) ?_
  refine va_get (D := D) (ci := 0) (v := .int (nI nt)) (C := R_B) (T := F_B) (N := 14) hx hb hts in_B hown hK hP 0 rfl rfl 7 (by decide) (hts _ wd_54) (fun _ h9 => h9) rfl d_B_buildArranged_1 ?_
  refine fn_S (ws' := (bsW ad cL cI nv nb nt nf na lv nm vw vp tw ab am w)) (w1 := (nilW)) (wc := (nilW)) (wr := [(ad 0, .inr (0, [.ref (ad 2), .ref (ad 1), .ref (ad 4), .ref (ad 5), .int (nI nv), .int (nI nb), .ref (ad 6), .int (nI nt), .int (nI nf), .ref (ad 7), .int (nI na), .int (nI lv), .ref (ad 8), .int (nI nm)])), (ad 1, .inr (2, [.ref (ad 2)])), (ad 2, .inr (1, [.ref (ad 3)])), (ad 3, .inl (cL, 4160, .inr (.inl w))), (ad 4, .inl (cI, 6, .inl (fun j => nI (vw j)))), (ad 5, .inl (cI, 6, .inl (fun j => nI (vp j)))), (ad 6, .inl (cI, 50, .inl (fun j => nI (tw j)))), (ad 7, .inl (cI, 6, .inl (fun j => nI (ab j)))), (ad 8, .inl (cI, 8, .inl (fun j => nI (am j))))]) ⟨hx, hb, hml, hown, hts⟩ (c_B_termRow l D nt) ⟨callB_of 1 hts (gW wd_267) rfl rfl rfl (hts _ wd_1) (hts _ wd_265) hd_B_termRow ⟨Nat.le_of_ble_eq_true rfl, Nat.le_of_ble_eq_true rfl⟩, hts _ wd_266⟩ XT_ok (fun _ _ _ => trivial) hK hP hD hS hA [] [] [0, 1, 2, 3, 4, 5, 6, 7, 8] [0, 1, 2, 3, 4, 5, 6, 7, 8] rfl rfl rfl rfl rfl (by decide) rfl rfl rfl hl.1 rfl (Nat.le_of_ble_eq_true rfl) d_B_buildArranged_4 ⟨Nat.zero_le _, Nat.zero_le _⟩ (st1 := [.int (nI (50 + nt * 4))]) rfl (fun H locs hP hD hS => ?_)
  refine lv_istore (lv' := [(5, .int (nI (50 + nt * 4))), (0, .ref (ad 0)), (1, .int (nI 11)), (2, .int (nI ka)), (3, .int (nI kb)), (4, .int kc)]) hx hb d_B_buildArranged_7 hl (by decide) rfl (fun ls hl => ?_)
  refine lv_aload_n hx hb d_B_buildArranged_9 rfl (lv_at hl 1 rfl) ?_
  refine va_get (D := D) (ci := 0) (v := .ref (ad 6)) (C := R_B) (T := F_B) (N := 14) hx hb hts in_B hown hK hP 0 rfl rfl 6 (by decide) (hts _ wd_53) (fun _ h9 => h9) rfl d_B_buildArranged_10 ?_
  refine lv_aload_n hx hb d_B_buildArranged_13 rfl (lv_at hl 1 rfl) ?_
  refine va_get (D := D) (ci := 0) (v := .int (nI nt)) (C := R_B) (T := F_B) (N := 14) hx hb hts in_B hown hK hP 0 rfl rfl 7 (by decide) (hts _ wd_54) (fun _ h9 => h9) rfl d_B_buildArranged_14 ?_
  refine n_iald hx hb hK hP 6 1 rfl rfl (i := nt) (by omega) (by omega) d_B_buildArranged_17 ?_
  rw [hwd]
  refine lv_istore (lv' := [(6, .int (nI wd)), (5, .int (nI (50 + nt * 4))), (0, .ref (ad 0)), (1, .int (nI 11)), (2, .int (nI ka)), (3, .int (nI kb)), (4, .int kc)]) hx hb d_B_buildArranged_18 hl (by decide) rfl (fun ls hl => ?_)
  refine lv_iload_n hx hb d_B_buildArranged_20 rfl (lv_at hl 3 rfl) ?_
  refine lv_tableIn (tgt := 95) (off := 74) hx hb d_B_buildArranged_21 (by decide +kernel) (by decide +kernel) (by decide +kernel) (by decide) ?_
  refine lv_aload_n hx hb d_B_buildArranged_95 rfl (lv_at hl 2 rfl) ?_
  refine va_get (D := D) (ci := 0) (v := .ref (ad 1)) (C := R_B) (T := F_B) (N := 14) hx hb hts in_B hown hK hP 0 rfl rfl 1 (by decide) (hts _ wd_48) (fun _ h9 => h9) rfl d_B_buildArranged_96 ?_
  refine lv_iload hx hb d_B_buildArranged_99 (lv_at hl 1 rfl) ?_
  refine lv_iload_n hx hb d_B_buildArranged_101 rfl (lv_at hl 4 rfl) ?_
  refine fn_S (ws' := (bsW ad cL cI nv nb nt nf na lv nm vw vp tw ab am w)) (w1 := (nilW)) (wc := (nilW)) (wr := [(ad 0, .inr (0, [.ref (ad 2), .ref (ad 1), .ref (ad 4), .ref (ad 5), .int (nI nv), .int (nI nb), .ref (ad 6), .int (nI nt), .int (nI nf), .ref (ad 7), .int (nI na), .int (nI lv), .ref (ad 8), .int (nI nm)])), (ad 1, .inr (2, [.ref (ad 2)])), (ad 2, .inr (1, [.ref (ad 3)])), (ad 3, .inl (cL, 4160, .inr (.inl w))), (ad 4, .inl (cI, 6, .inl (fun j => nI (vw j)))), (ad 5, .inl (cI, 6, .inl (fun j => nI (vp j)))), (ad 6, .inl (cI, 50, .inl (fun j => nI (tw j)))), (ad 7, .inl (cI, 6, .inl (fun j => nI (ab j)))), (ad 8, .inl (cI, 8, .inl (fun j => nI (am j))))]) ⟨hx, hb, hml, hown, hts⟩ (c_B_termRow l D ka) ⟨callB_of 1 hts (gW wd_267) rfl rfl rfl (hts _ wd_1) (hts _ wd_265) hd_B_termRow ⟨Nat.le_of_ble_eq_true rfl, Nat.le_of_ble_eq_true rfl⟩, hts _ wd_266⟩ XT_ok (fun _ _ _ => trivial) hK hP hD hS hA [] [] [0, 1, 2, 3, 4, 5, 6, 7, 8] [0, 1, 2, 3, 4, 5, 6, 7, 8] rfl rfl rfl rfl rfl (by decide) rfl rfl rfl hl.1 rfl (Nat.le_of_ble_eq_true rfl) d_B_buildArranged_102 ⟨Nat.zero_le _, Nat.zero_le _⟩ (st1 := [.int (nI (50 + ka * 4)), .int (nI (50 + nt * 4)), .ref (ad 1)]) rfl (fun H locs hP hD hS => ?_)
  refine lv_iload hx hb d_B_buildArranged_105 (lv_at hl 0 rfl) ?_
  refine lv_iload_n hx hb d_B_buildArranged_107 rfl (lv_at hl 5 rfl) ?_
  refine lv_iconst (v := nI 1) hx hb d_B_buildArranged_108 (by decide) ?_
  refine fn_V (ws' := (bsW ad cL cI nv nb nt nf na lv nm vw vp tw ab am (cDownN (50 + nt * 4) (50 + ka * 4) wd kb true wd w))) (w1 := (circW (ad 1) (ad 2) (ad 3) cL (cDownN (50 + nt * 4) (50 + ka * 4) wd kb true wd w))) (wc := (circW (ad 1) (ad 2) (ad 3) cL w)) (wr := [(ad 0, .inr (0, [.ref (ad 2), .ref (ad 1), .ref (ad 4), .ref (ad 5), .int (nI nv), .int (nI nb), .ref (ad 6), .int (nI nt), .int (nI nf), .ref (ad 7), .int (nI na), .int (nI lv), .ref (ad 8), .int (nI nm)])), (ad 4, .inl (cI, 6, .inl (fun j => nI (vw j)))), (ad 5, .inl (cI, 6, .inl (fun j => nI (vp j)))), (ad 6, .inl (cI, 50, .inl (fun j => nI (tw j)))), (ad 7, .inl (cI, 6, .inl (fun j => nI (ab j)))), (ad 8, .inl (cI, 8, .inl (fun j => nI (am j))))]) ⟨hx, hb, hml, hown, hts⟩ (c_C_moveDown l D (ad 1) (ad 2) (ad 3) cL w (50 + nt * 4) (50 + ka * 4) wd kb true (by omega) (by omega) (by omega)) ⟨callB_of 5 hts (gW wd_334) rfl rfl rfl (hts _ wd_2) (hts _ wd_331) hd_C_moveDown ⟨Nat.le_of_ble_eq_true rfl, Nat.le_of_ble_eq_true rfl⟩, hts _ wd_332, hts _ wd_333⟩ XT_ok (fun _ _ _ => trivial) hK hP hD hS hA 1 2 rfl rfl rfl [0] [1, 2, 3] [0, 4, 5, 6, 7, 8] [0, 6, 7, 8, 1, 2, 3, 4, 5] rfl rfl rfl rfl rfl (by decide) rfl rfl rfl hl.1 rfl (Nat.le_of_ble_eq_true rfl) d_B_buildArranged_109 ⟨Nat.zero_le _, Nat.zero_le _⟩ (st1 := []) rfl (fun H locs hP hD hS => ?_)
  refine lv_goto (tgt := 204) hx hb d_B_buildArranged_112 (by decide) ?_
  exact fn_vret hx hb hr hlocks hAe hK hP hD hS d_B_buildArranged_204
set_option maxHeartbeats 4000000 in
set_option maxRecDepth 100000 in
theorem c_B_buildArranged_12 (l : Launch) (D : va_G) (ad : Nat → Nat) (cL cI : ClassId) (nv nb nt nf na lv nm : Nat) (vw vp tw ab am : Nat → Nat) (w : Nat → Int64) (hok : Bok nv nb nt nf na lv nm vw vp tw ab am) (ka kb kc : Nat) (ha : ka < nf) (hb2 : kb < nt) (hc2 : kc < nt) (wd : Nat) (hwd : tw nt = wd) (h1 : 1 ≤ wd) (h4 : wd ≤ 4) (hnt : nt < 50)  : Fn l y_B_buildArranged (wk y_B_buildArranged b_B_buildArranged 7 none) rm_B_buildArranged D cls [(cL, .long), (cI, .int)] [.ref (ad 0), .int (nI 12), .int (nI ka), .int (nI kb), .int (nI kc)] (bsW ad cL cI nv nb nt nf na lv nm vw vp tw ab am w) XT none (bsW ad cL cI nv nb nt nf na lv nm vw vp tw ab am (cChoN (50 + nt * 4) ka (50 + kb * 4) (50 + kc * 4) wd w)) := by
  refine Fn.of (by decide) rfl (Nat.le_of_ble_eq_true rfl) ?_
  intro p e s m below meth c A ls hx hb hml hr hts0 hown hlocks hnm hP hK hD hS hA hAe hX hl
  have hts : ∀ w ∈ lw_ok, w.before _ s = true := fun w h => hts0 w (List.mem_cons_of_mem _ h)
  have hown : s.vm.findClass R_B = some m.cls := hown
  have hP : va_P D cls (bsW ad cL cI nv nb nt nf na lv nm vw vp tw ab am w) s.heap := hP
  have hl : lv_has ls 7 [(0, .ref (ad 0)), (1, .int (nI 12)), (2, .int (nI ka)), (3, .int (nI kb)), (4, .int (nI kc))] := hl
  obtain ⟨o_nv, o_nb, o_nt, o_nf, o_na, o_lv, o_nm, o_vw, o_tw, o_am, o_ab⟩ := id hok
  refine lv_aload_n hx hb d_B_buildArranged_0 rfl (lv_at hl 0 rfl) ?_
  refine va_get (D := D) (ci := 0) (v := .int (nI nt)) (C := R_B) (T := F_B) (N := 14) hx hb hts in_B hown hK hP 0 rfl rfl 7 (by decide) (hts _ wd_54) (fun _ h9 => h9) rfl d_B_buildArranged_1 ?_
  refine fn_S (ws' := (bsW ad cL cI nv nb nt nf na lv nm vw vp tw ab am w)) (w1 := (nilW)) (wc := (nilW)) (wr := [(ad 0, .inr (0, [.ref (ad 2), .ref (ad 1), .ref (ad 4), .ref (ad 5), .int (nI nv), .int (nI nb), .ref (ad 6), .int (nI nt), .int (nI nf), .ref (ad 7), .int (nI na), .int (nI lv), .ref (ad 8), .int (nI nm)])), (ad 1, .inr (2, [.ref (ad 2)])), (ad 2, .inr (1, [.ref (ad 3)])), (ad 3, .inl (cL, 4160, .inr (.inl w))), (ad 4, .inl (cI, 6, .inl (fun j => nI (vw j)))), (ad 5, .inl (cI, 6, .inl (fun j => nI (vp j)))), (ad 6, .inl (cI, 50, .inl (fun j => nI (tw j)))), (ad 7, .inl (cI, 6, .inl (fun j => nI (ab j)))), (ad 8, .inl (cI, 8, .inl (fun j => nI (am j))))]) ⟨hx, hb, hml, hown, hts⟩ (c_B_termRow l D nt) ⟨callB_of 1 hts (gW wd_267) rfl rfl rfl (hts _ wd_1) (hts _ wd_265) hd_B_termRow ⟨Nat.le_of_ble_eq_true rfl, Nat.le_of_ble_eq_true rfl⟩, hts _ wd_266⟩ XT_ok (fun _ _ _ => trivial) hK hP hD hS hA [] [] [0, 1, 2, 3, 4, 5, 6, 7, 8] [0, 1, 2, 3, 4, 5, 6, 7, 8] rfl rfl rfl rfl rfl (by decide) rfl rfl rfl hl.1 rfl (Nat.le_of_ble_eq_true rfl) d_B_buildArranged_4 ⟨Nat.zero_le _, Nat.zero_le _⟩ (st1 := [.int (nI (50 + nt * 4))]) rfl (fun H locs hP hD hS => ?_)
  refine lv_istore (lv' := [(5, .int (nI (50 + nt * 4))), (0, .ref (ad 0)), (1, .int (nI 12)), (2, .int (nI ka)), (3, .int (nI kb)), (4, .int (nI kc))]) hx hb d_B_buildArranged_7 hl (by decide) rfl (fun ls hl => ?_)
  refine lv_aload_n hx hb d_B_buildArranged_9 rfl (lv_at hl 1 rfl) ?_
  refine va_get (D := D) (ci := 0) (v := .ref (ad 6)) (C := R_B) (T := F_B) (N := 14) hx hb hts in_B hown hK hP 0 rfl rfl 6 (by decide) (hts _ wd_53) (fun _ h9 => h9) rfl d_B_buildArranged_10 ?_
  refine lv_aload_n hx hb d_B_buildArranged_13 rfl (lv_at hl 1 rfl) ?_
  refine va_get (D := D) (ci := 0) (v := .int (nI nt)) (C := R_B) (T := F_B) (N := 14) hx hb hts in_B hown hK hP 0 rfl rfl 7 (by decide) (hts _ wd_54) (fun _ h9 => h9) rfl d_B_buildArranged_14 ?_
  refine n_iald hx hb hK hP 6 1 rfl rfl (i := nt) (by omega) (by omega) d_B_buildArranged_17 ?_
  rw [hwd]
  refine lv_istore (lv' := [(6, .int (nI wd)), (5, .int (nI (50 + nt * 4))), (0, .ref (ad 0)), (1, .int (nI 12)), (2, .int (nI ka)), (3, .int (nI kb)), (4, .int (nI kc))]) hx hb d_B_buildArranged_18 hl (by decide) rfl (fun ls hl => ?_)
  refine lv_iload_n hx hb d_B_buildArranged_20 rfl (lv_at hl 3 rfl) ?_
  refine lv_tableIn (tgt := 115) (off := 94) hx hb d_B_buildArranged_21 (by decide +kernel) (by decide +kernel) (by decide +kernel) (by decide) ?_
  refine lv_aload_n hx hb d_B_buildArranged_115 rfl (lv_at hl 2 rfl) ?_
  refine va_get (D := D) (ci := 0) (v := .ref (ad 1)) (C := R_B) (T := F_B) (N := 14) hx hb hts in_B hown hK hP 0 rfl rfl 1 (by decide) (hts _ wd_48) (fun _ h9 => h9) rfl d_B_buildArranged_116 ?_
  refine lv_iload hx hb d_B_buildArranged_119 (lv_at hl 1 rfl) ?_
  refine lv_iload_n hx hb d_B_buildArranged_121 rfl (lv_at hl 4 rfl) ?_
  refine lv_iload_n hx hb d_B_buildArranged_122 rfl (lv_at hl 5 rfl) ?_
  refine fn_S (ws' := (bsW ad cL cI nv nb nt nf na lv nm vw vp tw ab am w)) (w1 := (nilW)) (wc := (nilW)) (wr := [(ad 0, .inr (0, [.ref (ad 2), .ref (ad 1), .ref (ad 4), .ref (ad 5), .int (nI nv), .int (nI nb), .ref (ad 6), .int (nI nt), .int (nI nf), .ref (ad 7), .int (nI na), .int (nI lv), .ref (ad 8), .int (nI nm)])), (ad 1, .inr (2, [.ref (ad 2)])), (ad 2, .inr (1, [.ref (ad 3)])), (ad 3, .inl (cL, 4160, .inr (.inl w))), (ad 4, .inl (cI, 6, .inl (fun j => nI (vw j)))), (ad 5, .inl (cI, 6, .inl (fun j => nI (vp j)))), (ad 6, .inl (cI, 50, .inl (fun j => nI (tw j)))), (ad 7, .inl (cI, 6, .inl (fun j => nI (ab j)))), (ad 8, .inl (cI, 8, .inl (fun j => nI (am j))))]) ⟨hx, hb, hml, hown, hts⟩ (c_B_termRow l D kb) ⟨callB_of 1 hts (gW wd_267) rfl rfl rfl (hts _ wd_1) (hts _ wd_265) hd_B_termRow ⟨Nat.le_of_ble_eq_true rfl, Nat.le_of_ble_eq_true rfl⟩, hts _ wd_266⟩ XT_ok (fun _ _ _ => trivial) hK hP hD hS hA [] [] [0, 1, 2, 3, 4, 5, 6, 7, 8] [0, 1, 2, 3, 4, 5, 6, 7, 8] rfl rfl rfl rfl rfl (by decide) rfl rfl rfl hl.1 rfl (Nat.le_of_ble_eq_true rfl) d_B_buildArranged_123 ⟨Nat.zero_le _, Nat.zero_le _⟩ (st1 := [.int (nI (50 + kb * 4)), .int (nI ka), .int (nI (50 + nt * 4)), .ref (ad 1)]) rfl (fun H locs hP hD hS => ?_)
  refine lv_iload hx hb d_B_buildArranged_126 (lv_at hl 6 rfl) ?_
  refine fn_S (ws' := (bsW ad cL cI nv nb nt nf na lv nm vw vp tw ab am w)) (w1 := (nilW)) (wc := (nilW)) (wr := [(ad 0, .inr (0, [.ref (ad 2), .ref (ad 1), .ref (ad 4), .ref (ad 5), .int (nI nv), .int (nI nb), .ref (ad 6), .int (nI nt), .int (nI nf), .ref (ad 7), .int (nI na), .int (nI lv), .ref (ad 8), .int (nI nm)])), (ad 1, .inr (2, [.ref (ad 2)])), (ad 2, .inr (1, [.ref (ad 3)])), (ad 3, .inl (cL, 4160, .inr (.inl w))), (ad 4, .inl (cI, 6, .inl (fun j => nI (vw j)))), (ad 5, .inl (cI, 6, .inl (fun j => nI (vp j)))), (ad 6, .inl (cI, 50, .inl (fun j => nI (tw j)))), (ad 7, .inl (cI, 6, .inl (fun j => nI (ab j)))), (ad 8, .inl (cI, 8, .inl (fun j => nI (am j))))]) ⟨hx, hb, hml, hown, hts⟩ (c_B_termRow l D kc) ⟨callB_of 1 hts (gW wd_267) rfl rfl rfl (hts _ wd_1) (hts _ wd_265) hd_B_termRow ⟨Nat.le_of_ble_eq_true rfl, Nat.le_of_ble_eq_true rfl⟩, hts _ wd_266⟩ XT_ok (fun _ _ _ => trivial) hK hP hD hS hA [] [] [0, 1, 2, 3, 4, 5, 6, 7, 8] [0, 1, 2, 3, 4, 5, 6, 7, 8] rfl rfl rfl rfl rfl (by decide) rfl rfl rfl hl.1 rfl (Nat.le_of_ble_eq_true rfl) d_B_buildArranged_128 ⟨Nat.zero_le _, Nat.zero_le _⟩ (st1 := [.int (nI (50 + kc * 4)), .int (nI (50 + kb * 4)), .int (nI ka), .int (nI (50 + nt * 4)), .ref (ad 1)]) rfl (fun H locs hP hD hS => ?_)
  refine lv_iload hx hb d_B_buildArranged_131 (lv_at hl 0 rfl) ?_
  refine fn_V (ws' := (bsW ad cL cI nv nb nt nf na lv nm vw vp tw ab am (cChoN (50 + nt * 4) ka (50 + kb * 4) (50 + kc * 4) wd w))) (w1 := (circW (ad 1) (ad 2) (ad 3) cL (cChoN (50 + nt * 4) ka (50 + kb * 4) (50 + kc * 4) wd w))) (wc := (circW (ad 1) (ad 2) (ad 3) cL w)) (wr := [(ad 0, .inr (0, [.ref (ad 2), .ref (ad 1), .ref (ad 4), .ref (ad 5), .int (nI nv), .int (nI nb), .ref (ad 6), .int (nI nt), .int (nI nf), .ref (ad 7), .int (nI na), .int (nI lv), .ref (ad 8), .int (nI nm)])), (ad 4, .inl (cI, 6, .inl (fun j => nI (vw j)))), (ad 5, .inl (cI, 6, .inl (fun j => nI (vp j)))), (ad 6, .inl (cI, 50, .inl (fun j => nI (tw j)))), (ad 7, .inl (cI, 6, .inl (fun j => nI (ab j)))), (ad 8, .inl (cI, 8, .inl (fun j => nI (am j))))]) ⟨hx, hb, hml, hown, hts⟩ (c_C_choice l D (ad 1) (ad 2) (ad 3) cL w (50 + nt * 4) ka (50 + kb * 4) (50 + kc * 4) wd (by omega) (by omega) (by omega) (by omega)) ⟨callB_of 5 hts (gW wd_338) rfl rfl rfl (hts _ wd_2) (hts _ wd_335) hd_C_choice ⟨Nat.le_of_ble_eq_true rfl, Nat.le_of_ble_eq_true rfl⟩, hts _ wd_336, hts _ wd_337⟩ XT_ok (fun _ _ _ => trivial) hK hP hD hS hA 1 2 rfl rfl rfl [0] [1, 2, 3] [0, 4, 5, 6, 7, 8] [0, 6, 7, 8, 1, 2, 3, 4, 5] rfl rfl rfl rfl rfl (by decide) rfl rfl rfl hl.1 rfl (Nat.le_of_ble_eq_true rfl) d_B_buildArranged_133 ⟨Nat.zero_le _, Nat.zero_le _⟩ (st1 := []) rfl (fun H locs hP hD hS => ?_)
  refine lv_goto (tgt := 204) hx hb d_B_buildArranged_136 (by decide) ?_
  exact fn_vret hx hb hr hlocks hAe hK hP hD hS d_B_buildArranged_204
set_option maxHeartbeats 4000000 in
set_option maxRecDepth 100000 in
theorem c_B_buildArranged_13 (l : Launch) (D : va_G) (ad : Nat → Nat) (cL cI : ClassId) (nv nb nt nf na lv nm : Nat) (vw vp tw ab am : Nat → Nat) (w : Nat → Int64) (hok : Bok nv nb nt nf na lv nm vw vp tw ab am) (ka kb : Nat) (kc : Int32) (ha : ka < nt) (hb2 : kb < nt) (wd : Nat) (hwd : tw nt = wd) (h1 : 1 ≤ wd) (h4 : wd ≤ 4) (hnt : nt < 50) (hs2 : tw ka + tw kb = wd) : Fn l y_B_buildArranged (wk y_B_buildArranged b_B_buildArranged 7 none) rm_B_buildArranged D cls [(cL, .long), (cI, .int)] [.ref (ad 0), .int (nI 13), .int (nI ka), .int (nI kb), .int kc] (bsW ad cL cI nv nb nt nf na lv nm vw vp tw ab am w) XT none (bsW ad cL cI nv nb nt nf na lv nm vw vp tw ab am (oCopy ((50 + nt * 4) + tw ka) (50 + kb * 4) (tw kb) (oCopy (50 + nt * 4) (50 + ka * 4) (tw ka) w))) := by
  refine Fn.of (by decide) rfl (Nat.le_of_ble_eq_true rfl) ?_
  intro p e s m below meth c A ls hx hb hml hr hts0 hown hlocks hnm hP hK hD hS hA hAe hX hl
  have hts : ∀ w ∈ lw_ok, w.before _ s = true := fun w h => hts0 w (List.mem_cons_of_mem _ h)
  have hown : s.vm.findClass R_B = some m.cls := hown
  have hP : va_P D cls (bsW ad cL cI nv nb nt nf na lv nm vw vp tw ab am w) s.heap := hP
  have hl : lv_has ls 7 [(0, .ref (ad 0)), (1, .int (nI 13)), (2, .int (nI ka)), (3, .int (nI kb)), (4, .int kc)] := hl
  obtain ⟨o_nv, o_nb, o_nt, o_nf, o_na, o_lv, o_nm, o_vw, o_tw, o_am, o_ab⟩ := id hok
  have oa := o_tw ka ha
  have ob := o_tw kb hb2
  refine lv_aload_n hx hb d_B_buildArranged_0 rfl (lv_at hl 0 rfl) ?_
  refine va_get (D := D) (ci := 0) (v := .int (nI nt)) (C := R_B) (T := F_B) (N := 14) hx hb hts in_B hown hK hP 0 rfl rfl 7 (by decide) (hts _ wd_54) (fun _ h9 => h9) rfl d_B_buildArranged_1 ?_
  refine fn_S (ws' := (bsW ad cL cI nv nb nt nf na lv nm vw vp tw ab am w)) (w1 := (nilW)) (wc := (nilW)) (wr := [(ad 0, .inr (0, [.ref (ad 2), .ref (ad 1), .ref (ad 4), .ref (ad 5), .int (nI nv), .int (nI nb), .ref (ad 6), .int (nI nt), .int (nI nf), .ref (ad 7), .int (nI na), .int (nI lv), .ref (ad 8), .int (nI nm)])), (ad 1, .inr (2, [.ref (ad 2)])), (ad 2, .inr (1, [.ref (ad 3)])), (ad 3, .inl (cL, 4160, .inr (.inl w))), (ad 4, .inl (cI, 6, .inl (fun j => nI (vw j)))), (ad 5, .inl (cI, 6, .inl (fun j => nI (vp j)))), (ad 6, .inl (cI, 50, .inl (fun j => nI (tw j)))), (ad 7, .inl (cI, 6, .inl (fun j => nI (ab j)))), (ad 8, .inl (cI, 8, .inl (fun j => nI (am j))))]) ⟨hx, hb, hml, hown, hts⟩ (c_B_termRow l D nt) ⟨callB_of 1 hts (gW wd_267) rfl rfl rfl (hts _ wd_1) (hts _ wd_265) hd_B_termRow ⟨Nat.le_of_ble_eq_true rfl, Nat.le_of_ble_eq_true rfl⟩, hts _ wd_266⟩ XT_ok (fun _ _ _ => trivial) hK hP hD hS hA [] [] [0, 1, 2, 3, 4, 5, 6, 7, 8] [0, 1, 2, 3, 4, 5, 6, 7, 8] rfl rfl rfl rfl rfl (by decide) rfl rfl rfl hl.1 rfl (Nat.le_of_ble_eq_true rfl) d_B_buildArranged_4 ⟨Nat.zero_le _, Nat.zero_le _⟩ (st1 := [.int (nI (50 + nt * 4))]) rfl (fun H locs hP hD hS => ?_)
  refine lv_istore (lv' := [(5, .int (nI (50 + nt * 4))), (0, .ref (ad 0)), (1, .int (nI 13)), (2, .int (nI ka)), (3, .int (nI kb)), (4, .int kc)]) hx hb d_B_buildArranged_7 hl (by decide) rfl (fun ls hl => ?_)
  refine lv_aload_n hx hb d_B_buildArranged_9 rfl (lv_at hl 1 rfl) ?_
  refine va_get (D := D) (ci := 0) (v := .ref (ad 6)) (C := R_B) (T := F_B) (N := 14) hx hb hts in_B hown hK hP 0 rfl rfl 6 (by decide) (hts _ wd_53) (fun _ h9 => h9) rfl d_B_buildArranged_10 ?_
  refine lv_aload_n hx hb d_B_buildArranged_13 rfl (lv_at hl 1 rfl) ?_
  refine va_get (D := D) (ci := 0) (v := .int (nI nt)) (C := R_B) (T := F_B) (N := 14) hx hb hts in_B hown hK hP 0 rfl rfl 7 (by decide) (hts _ wd_54) (fun _ h9 => h9) rfl d_B_buildArranged_14 ?_
  refine n_iald hx hb hK hP 6 1 rfl rfl (i := nt) (by omega) (by omega) d_B_buildArranged_17 ?_
  rw [hwd]
  refine lv_istore (lv' := [(6, .int (nI wd)), (5, .int (nI (50 + nt * 4))), (0, .ref (ad 0)), (1, .int (nI 13)), (2, .int (nI ka)), (3, .int (nI kb)), (4, .int kc)]) hx hb d_B_buildArranged_18 hl (by decide) rfl (fun ls hl => ?_)
  refine lv_iload_n hx hb d_B_buildArranged_20 rfl (lv_at hl 3 rfl) ?_
  refine lv_tableIn (tgt := 139) (off := 118) hx hb d_B_buildArranged_21 (by decide +kernel) (by decide +kernel) (by decide +kernel) (by decide) ?_
  refine lv_aload_n hx hb d_B_buildArranged_139 rfl (lv_at hl 2 rfl) ?_
  refine va_get (D := D) (ci := 0) (v := .ref (ad 2)) (C := R_B) (T := F_B) (N := 14) hx hb hts in_B hown hK hP 0 rfl rfl 0 (by decide) (hts _ wd_47) (fun _ h9 => h9) rfl d_B_buildArranged_140 ?_
  refine lv_iload hx hb d_B_buildArranged_143 (lv_at hl 1 rfl) ?_
  refine lv_iload_n hx hb d_B_buildArranged_145 rfl (lv_at hl 4 rfl) ?_
  refine fn_S (ws' := (bsW ad cL cI nv nb nt nf na lv nm vw vp tw ab am w)) (w1 := (nilW)) (wc := (nilW)) (wr := [(ad 0, .inr (0, [.ref (ad 2), .ref (ad 1), .ref (ad 4), .ref (ad 5), .int (nI nv), .int (nI nb), .ref (ad 6), .int (nI nt), .int (nI nf), .ref (ad 7), .int (nI na), .int (nI lv), .ref (ad 8), .int (nI nm)])), (ad 1, .inr (2, [.ref (ad 2)])), (ad 2, .inr (1, [.ref (ad 3)])), (ad 3, .inl (cL, 4160, .inr (.inl w))), (ad 4, .inl (cI, 6, .inl (fun j => nI (vw j)))), (ad 5, .inl (cI, 6, .inl (fun j => nI (vp j)))), (ad 6, .inl (cI, 50, .inl (fun j => nI (tw j)))), (ad 7, .inl (cI, 6, .inl (fun j => nI (ab j)))), (ad 8, .inl (cI, 8, .inl (fun j => nI (am j))))]) ⟨hx, hb, hml, hown, hts⟩ (c_B_termRow l D ka) ⟨callB_of 1 hts (gW wd_267) rfl rfl rfl (hts _ wd_1) (hts _ wd_265) hd_B_termRow ⟨Nat.le_of_ble_eq_true rfl, Nat.le_of_ble_eq_true rfl⟩, hts _ wd_266⟩ XT_ok (fun _ _ _ => trivial) hK hP hD hS hA [] [] [0, 1, 2, 3, 4, 5, 6, 7, 8] [0, 1, 2, 3, 4, 5, 6, 7, 8] rfl rfl rfl rfl rfl (by decide) rfl rfl rfl hl.1 rfl (Nat.le_of_ble_eq_true rfl) d_B_buildArranged_146 ⟨Nat.zero_le _, Nat.zero_le _⟩ (st1 := [.int (nI (50 + ka * 4)), .int (nI (50 + nt * 4)), .ref (ad 2)]) rfl (fun H locs hP hD hS => ?_)
  refine lv_aload_n hx hb d_B_buildArranged_149 rfl (lv_at hl 2 rfl) ?_
  refine va_get (D := D) (ci := 0) (v := .ref (ad 6)) (C := R_B) (T := F_B) (N := 14) hx hb hts in_B hown hK hP 0 rfl rfl 6 (by decide) (hts _ wd_53) (fun _ h9 => h9) rfl d_B_buildArranged_150 ?_
  refine lv_iload_n hx hb d_B_buildArranged_153 rfl (lv_at hl 4 rfl) ?_
  refine n_iald hx hb hK hP 6 1 rfl rfl (i := ka) (by omega) (by omega) d_B_buildArranged_154 ?_
  refine fn_V (ws' := (bsW ad cL cI nv nb nt nf na lv nm vw vp tw ab am (oCopy (50 + nt * 4) (50 + ka * 4) (tw ka) w))) (w1 := (setsW (ad 2) (ad 3) cL (oCopy (50 + nt * 4) (50 + ka * 4) (tw ka) w))) (wc := (setsW (ad 2) (ad 3) cL w)) (wr := [(ad 0, .inr (0, [.ref (ad 2), .ref (ad 1), .ref (ad 4), .ref (ad 5), .int (nI nv), .int (nI nb), .ref (ad 6), .int (nI nt), .int (nI nf), .ref (ad 7), .int (nI na), .int (nI lv), .ref (ad 8), .int (nI nm)])), (ad 1, .inr (2, [.ref (ad 2)])), (ad 4, .inl (cI, 6, .inl (fun j => nI (vw j)))), (ad 5, .inl (cI, 6, .inl (fun j => nI (vp j)))), (ad 6, .inl (cI, 50, .inl (fun j => nI (tw j)))), (ad 7, .inl (cI, 6, .inl (fun j => nI (ab j)))), (ad 8, .inl (cI, 8, .inl (fun j => nI (am j))))]) ⟨hx, hb, hml, hown, hts⟩ (c_S_copy l D (ad 2) (ad 3) cL w (50 + nt * 4) (50 + ka * 4) (tw ka) (by omega) (by omega) (by omega)) ⟨callB_of 3 hts (gW wd_130) rfl rfl rfl (hts _ wd_3) (hts _ wd_127) hd_S_copy ⟨Nat.le_of_ble_eq_true rfl, Nat.le_of_ble_eq_true rfl⟩, hts _ wd_128, hts _ wd_129⟩ XT_ok (fun _ _ _ => trivial) hK hP hD hS hA 2 1 rfl rfl rfl [0] [2, 3] [0, 1, 4, 5, 6, 7, 8] [0, 1, 7, 8, 2, 3, 4, 5, 6] rfl rfl rfl rfl rfl (by decide) rfl rfl rfl hl.1 rfl (Nat.le_of_ble_eq_true rfl) d_B_buildArranged_155 ⟨Nat.zero_le _, Nat.zero_le _⟩ (st1 := []) rfl (fun H locs hP hD hS => ?_)
  refine lv_aload_n hx hb d_B_buildArranged_158 rfl (lv_at hl 2 rfl) ?_
  refine va_get (D := D) (ci := 0) (v := .ref (ad 2)) (C := R_B) (T := F_B) (N := 14) hx hb hts in_B hown hK hP 0 rfl rfl 0 (by decide) (hts _ wd_47) (fun _ h9 => h9) rfl d_B_buildArranged_159 ?_
  refine lv_iload hx hb d_B_buildArranged_162 (lv_at hl 1 rfl) ?_
  refine lv_aload_n hx hb d_B_buildArranged_164 rfl (lv_at hl 2 rfl) ?_
  refine va_get (D := D) (ci := 0) (v := .ref (ad 6)) (C := R_B) (T := F_B) (N := 14) hx hb hts in_B hown hK hP 0 rfl rfl 6 (by decide) (hts _ wd_53) (fun _ h9 => h9) rfl d_B_buildArranged_165 ?_
  refine lv_iload_n hx hb d_B_buildArranged_168 rfl (lv_at hl 4 rfl) ?_
  refine n_iald hx hb hK hP 6 1 rfl rfl (i := ka) (by omega) (by omega) d_B_buildArranged_169 ?_
  refine n_add hx hb d_B_buildArranged_170 ?_
  refine lv_iload_n hx hb d_B_buildArranged_171 rfl (lv_at hl 5 rfl) ?_
  refine fn_S (ws' := (bsW ad cL cI nv nb nt nf na lv nm vw vp tw ab am (oCopy (50 + nt * 4) (50 + ka * 4) (tw ka) w))) (w1 := (nilW)) (wc := (nilW)) (wr := [(ad 0, .inr (0, [.ref (ad 2), .ref (ad 1), .ref (ad 4), .ref (ad 5), .int (nI nv), .int (nI nb), .ref (ad 6), .int (nI nt), .int (nI nf), .ref (ad 7), .int (nI na), .int (nI lv), .ref (ad 8), .int (nI nm)])), (ad 1, .inr (2, [.ref (ad 2)])), (ad 2, .inr (1, [.ref (ad 3)])), (ad 3, .inl (cL, 4160, .inr (.inl (oCopy (50 + nt * 4) (50 + ka * 4) (tw ka) w)))), (ad 4, .inl (cI, 6, .inl (fun j => nI (vw j)))), (ad 5, .inl (cI, 6, .inl (fun j => nI (vp j)))), (ad 6, .inl (cI, 50, .inl (fun j => nI (tw j)))), (ad 7, .inl (cI, 6, .inl (fun j => nI (ab j)))), (ad 8, .inl (cI, 8, .inl (fun j => nI (am j))))]) ⟨hx, hb, hml, hown, hts⟩ (c_B_termRow l D kb) ⟨callB_of 1 hts (gW wd_267) rfl rfl rfl (hts _ wd_1) (hts _ wd_265) hd_B_termRow ⟨Nat.le_of_ble_eq_true rfl, Nat.le_of_ble_eq_true rfl⟩, hts _ wd_266⟩ XT_ok (fun _ _ _ => trivial) hK hP hD hS hA [] [] [0, 1, 2, 3, 4, 5, 6, 7, 8] [0, 1, 2, 3, 4, 5, 6, 7, 8] rfl rfl rfl rfl rfl (by decide) rfl rfl rfl hl.1 rfl (Nat.le_of_ble_eq_true rfl) d_B_buildArranged_172 ⟨Nat.zero_le _, Nat.zero_le _⟩ (st1 := [.int (nI (50 + kb * 4)), .int (nI ((50 + nt * 4) + (tw ka))), .ref (ad 2)]) rfl (fun H locs hP hD hS => ?_)
  refine lv_aload_n hx hb d_B_buildArranged_175 rfl (lv_at hl 2 rfl) ?_
  refine va_get (D := D) (ci := 0) (v := .ref (ad 6)) (C := R_B) (T := F_B) (N := 14) hx hb hts in_B hown hK hP 0 rfl rfl 6 (by decide) (hts _ wd_53) (fun _ h9 => h9) rfl d_B_buildArranged_176 ?_
  refine lv_iload_n hx hb d_B_buildArranged_179 rfl (lv_at hl 5 rfl) ?_
  refine n_iald hx hb hK hP 6 1 rfl rfl (i := kb) (by omega) (by omega) d_B_buildArranged_180 ?_
  refine fn_V (ws' := (bsW ad cL cI nv nb nt nf na lv nm vw vp tw ab am (oCopy ((50 + nt * 4) + (tw ka)) (50 + kb * 4) (tw kb) (oCopy (50 + nt * 4) (50 + ka * 4) (tw ka) w)))) (w1 := (setsW (ad 2) (ad 3) cL (oCopy ((50 + nt * 4) + (tw ka)) (50 + kb * 4) (tw kb) (oCopy (50 + nt * 4) (50 + ka * 4) (tw ka) w)))) (wc := (setsW (ad 2) (ad 3) cL (oCopy (50 + nt * 4) (50 + ka * 4) (tw ka) w))) (wr := [(ad 0, .inr (0, [.ref (ad 2), .ref (ad 1), .ref (ad 4), .ref (ad 5), .int (nI nv), .int (nI nb), .ref (ad 6), .int (nI nt), .int (nI nf), .ref (ad 7), .int (nI na), .int (nI lv), .ref (ad 8), .int (nI nm)])), (ad 1, .inr (2, [.ref (ad 2)])), (ad 4, .inl (cI, 6, .inl (fun j => nI (vw j)))), (ad 5, .inl (cI, 6, .inl (fun j => nI (vp j)))), (ad 6, .inl (cI, 50, .inl (fun j => nI (tw j)))), (ad 7, .inl (cI, 6, .inl (fun j => nI (ab j)))), (ad 8, .inl (cI, 8, .inl (fun j => nI (am j))))]) ⟨hx, hb, hml, hown, hts⟩ (c_S_copy l D (ad 2) (ad 3) cL (oCopy (50 + nt * 4) (50 + ka * 4) (tw ka) w) ((50 + nt * 4) + (tw ka)) (50 + kb * 4) (tw kb) (by omega) (by omega) (by omega)) ⟨callB_of 3 hts (gW wd_130) rfl rfl rfl (hts _ wd_3) (hts _ wd_127) hd_S_copy ⟨Nat.le_of_ble_eq_true rfl, Nat.le_of_ble_eq_true rfl⟩, hts _ wd_128, hts _ wd_129⟩ XT_ok (fun _ _ _ => trivial) hK hP hD hS hA 2 1 rfl rfl rfl [0] [2, 3] [0, 1, 4, 5, 6, 7, 8] [0, 1, 7, 8, 2, 3, 4, 5, 6] rfl rfl rfl rfl rfl (by decide) rfl rfl rfl hl.1 rfl (Nat.le_of_ble_eq_true rfl) d_B_buildArranged_181 ⟨Nat.zero_le _, Nat.zero_le _⟩ (st1 := []) rfl (fun H locs hP hD hS => ?_)
  refine lv_goto (tgt := 204) hx hb d_B_buildArranged_184 (by decide) ?_
  exact fn_vret hx hb hr hlocks hAe hK hP hD hS d_B_buildArranged_204
set_option maxHeartbeats 4000000 in
set_option maxRecDepth 100000 in
theorem c_B_buildArranged_14 (l : Launch) (D : va_G) (ad : Nat → Nat) (cL cI : ClassId) (nv nb nt nf na lv nm : Nat) (vw vp tw ab am : Nat → Nat) (w : Nat → Int64) (hok : Bok nv nb nt nf na lv nm vw vp tw ab am) (ka kb : Nat) (kc : Int32) (ha : ka < nt) (wd : Nat) (hwd : tw nt = wd) (h1 : 1 ≤ wd) (h4 : wd ≤ 4) (hnt : nt < 50) (hb2 : kb + wd ≤ 4) : Fn l y_B_buildArranged (wk y_B_buildArranged b_B_buildArranged 7 none) rm_B_buildArranged D cls [(cL, .long), (cI, .int)] [.ref (ad 0), .int (nI 14), .int (nI ka), .int (nI kb), .int kc] (bsW ad cL cI nv nb nt nf na lv nm vw vp tw ab am w) XT none (bsW ad cL cI nv nb nt nf na lv nm vw vp tw ab am (oCopy (50 + nt * 4) ((50 + ka * 4) + kb) wd w)) := by
  refine Fn.of (by decide) rfl (Nat.le_of_ble_eq_true rfl) ?_
  intro p e s m below meth c A ls hx hb hml hr hts0 hown hlocks hnm hP hK hD hS hA hAe hX hl
  have hts : ∀ w ∈ lw_ok, w.before _ s = true := fun w h => hts0 w (List.mem_cons_of_mem _ h)
  have hown : s.vm.findClass R_B = some m.cls := hown
  have hP : va_P D cls (bsW ad cL cI nv nb nt nf na lv nm vw vp tw ab am w) s.heap := hP
  have hl : lv_has ls 7 [(0, .ref (ad 0)), (1, .int (nI 14)), (2, .int (nI ka)), (3, .int (nI kb)), (4, .int kc)] := hl
  obtain ⟨o_nv, o_nb, o_nt, o_nf, o_na, o_lv, o_nm, o_vw, o_tw, o_am, o_ab⟩ := id hok
  refine lv_aload_n hx hb d_B_buildArranged_0 rfl (lv_at hl 0 rfl) ?_
  refine va_get (D := D) (ci := 0) (v := .int (nI nt)) (C := R_B) (T := F_B) (N := 14) hx hb hts in_B hown hK hP 0 rfl rfl 7 (by decide) (hts _ wd_54) (fun _ h9 => h9) rfl d_B_buildArranged_1 ?_
  refine fn_S (ws' := (bsW ad cL cI nv nb nt nf na lv nm vw vp tw ab am w)) (w1 := (nilW)) (wc := (nilW)) (wr := [(ad 0, .inr (0, [.ref (ad 2), .ref (ad 1), .ref (ad 4), .ref (ad 5), .int (nI nv), .int (nI nb), .ref (ad 6), .int (nI nt), .int (nI nf), .ref (ad 7), .int (nI na), .int (nI lv), .ref (ad 8), .int (nI nm)])), (ad 1, .inr (2, [.ref (ad 2)])), (ad 2, .inr (1, [.ref (ad 3)])), (ad 3, .inl (cL, 4160, .inr (.inl w))), (ad 4, .inl (cI, 6, .inl (fun j => nI (vw j)))), (ad 5, .inl (cI, 6, .inl (fun j => nI (vp j)))), (ad 6, .inl (cI, 50, .inl (fun j => nI (tw j)))), (ad 7, .inl (cI, 6, .inl (fun j => nI (ab j)))), (ad 8, .inl (cI, 8, .inl (fun j => nI (am j))))]) ⟨hx, hb, hml, hown, hts⟩ (c_B_termRow l D nt) ⟨callB_of 1 hts (gW wd_267) rfl rfl rfl (hts _ wd_1) (hts _ wd_265) hd_B_termRow ⟨Nat.le_of_ble_eq_true rfl, Nat.le_of_ble_eq_true rfl⟩, hts _ wd_266⟩ XT_ok (fun _ _ _ => trivial) hK hP hD hS hA [] [] [0, 1, 2, 3, 4, 5, 6, 7, 8] [0, 1, 2, 3, 4, 5, 6, 7, 8] rfl rfl rfl rfl rfl (by decide) rfl rfl rfl hl.1 rfl (Nat.le_of_ble_eq_true rfl) d_B_buildArranged_4 ⟨Nat.zero_le _, Nat.zero_le _⟩ (st1 := [.int (nI (50 + nt * 4))]) rfl (fun H locs hP hD hS => ?_)
  refine lv_istore (lv' := [(5, .int (nI (50 + nt * 4))), (0, .ref (ad 0)), (1, .int (nI 14)), (2, .int (nI ka)), (3, .int (nI kb)), (4, .int kc)]) hx hb d_B_buildArranged_7 hl (by decide) rfl (fun ls hl => ?_)
  refine lv_aload_n hx hb d_B_buildArranged_9 rfl (lv_at hl 1 rfl) ?_
  refine va_get (D := D) (ci := 0) (v := .ref (ad 6)) (C := R_B) (T := F_B) (N := 14) hx hb hts in_B hown hK hP 0 rfl rfl 6 (by decide) (hts _ wd_53) (fun _ h9 => h9) rfl d_B_buildArranged_10 ?_
  refine lv_aload_n hx hb d_B_buildArranged_13 rfl (lv_at hl 1 rfl) ?_
  refine va_get (D := D) (ci := 0) (v := .int (nI nt)) (C := R_B) (T := F_B) (N := 14) hx hb hts in_B hown hK hP 0 rfl rfl 7 (by decide) (hts _ wd_54) (fun _ h9 => h9) rfl d_B_buildArranged_14 ?_
  refine n_iald hx hb hK hP 6 1 rfl rfl (i := nt) (by omega) (by omega) d_B_buildArranged_17 ?_
  rw [hwd]
  refine lv_istore (lv' := [(6, .int (nI wd)), (5, .int (nI (50 + nt * 4))), (0, .ref (ad 0)), (1, .int (nI 14)), (2, .int (nI ka)), (3, .int (nI kb)), (4, .int kc)]) hx hb d_B_buildArranged_18 hl (by decide) rfl (fun ls hl => ?_)
  refine lv_iload_n hx hb d_B_buildArranged_20 rfl (lv_at hl 3 rfl) ?_
  refine lv_tableOut (tgt := 187) hx hb d_B_buildArranged_21 (by decide +kernel) (by decide) ?_
  refine lv_aload_n hx hb d_B_buildArranged_187 rfl (lv_at hl 2 rfl) ?_
  refine va_get (D := D) (ci := 0) (v := .ref (ad 2)) (C := R_B) (T := F_B) (N := 14) hx hb hts in_B hown hK hP 0 rfl rfl 0 (by decide) (hts _ wd_47) (fun _ h9 => h9) rfl d_B_buildArranged_188 ?_
  refine lv_iload hx hb d_B_buildArranged_191 (lv_at hl 1 rfl) ?_
  refine lv_iload_n hx hb d_B_buildArranged_193 rfl (lv_at hl 4 rfl) ?_
  refine fn_S (ws' := (bsW ad cL cI nv nb nt nf na lv nm vw vp tw ab am w)) (w1 := (nilW)) (wc := (nilW)) (wr := [(ad 0, .inr (0, [.ref (ad 2), .ref (ad 1), .ref (ad 4), .ref (ad 5), .int (nI nv), .int (nI nb), .ref (ad 6), .int (nI nt), .int (nI nf), .ref (ad 7), .int (nI na), .int (nI lv), .ref (ad 8), .int (nI nm)])), (ad 1, .inr (2, [.ref (ad 2)])), (ad 2, .inr (1, [.ref (ad 3)])), (ad 3, .inl (cL, 4160, .inr (.inl w))), (ad 4, .inl (cI, 6, .inl (fun j => nI (vw j)))), (ad 5, .inl (cI, 6, .inl (fun j => nI (vp j)))), (ad 6, .inl (cI, 50, .inl (fun j => nI (tw j)))), (ad 7, .inl (cI, 6, .inl (fun j => nI (ab j)))), (ad 8, .inl (cI, 8, .inl (fun j => nI (am j))))]) ⟨hx, hb, hml, hown, hts⟩ (c_B_termRow l D ka) ⟨callB_of 1 hts (gW wd_267) rfl rfl rfl (hts _ wd_1) (hts _ wd_265) hd_B_termRow ⟨Nat.le_of_ble_eq_true rfl, Nat.le_of_ble_eq_true rfl⟩, hts _ wd_266⟩ XT_ok (fun _ _ _ => trivial) hK hP hD hS hA [] [] [0, 1, 2, 3, 4, 5, 6, 7, 8] [0, 1, 2, 3, 4, 5, 6, 7, 8] rfl rfl rfl rfl rfl (by decide) rfl rfl rfl hl.1 rfl (Nat.le_of_ble_eq_true rfl) d_B_buildArranged_194 ⟨Nat.zero_le _, Nat.zero_le _⟩ (st1 := [.int (nI (50 + ka * 4)), .int (nI (50 + nt * 4)), .ref (ad 2)]) rfl (fun H locs hP hD hS => ?_)
  refine lv_iload_n hx hb d_B_buildArranged_197 rfl (lv_at hl 5 rfl) ?_
  refine n_add hx hb d_B_buildArranged_198 ?_
  refine lv_iload hx hb d_B_buildArranged_199 (lv_at hl 0 rfl) ?_
  refine fn_V (ws' := (bsW ad cL cI nv nb nt nf na lv nm vw vp tw ab am (oCopy (50 + nt * 4) ((50 + ka * 4) + kb) wd w))) (w1 := (setsW (ad 2) (ad 3) cL (oCopy (50 + nt * 4) ((50 + ka * 4) + kb) wd w))) (wc := (setsW (ad 2) (ad 3) cL w)) (wr := [(ad 0, .inr (0, [.ref (ad 2), .ref (ad 1), .ref (ad 4), .ref (ad 5), .int (nI nv), .int (nI nb), .ref (ad 6), .int (nI nt), .int (nI nf), .ref (ad 7), .int (nI na), .int (nI lv), .ref (ad 8), .int (nI nm)])), (ad 1, .inr (2, [.ref (ad 2)])), (ad 4, .inl (cI, 6, .inl (fun j => nI (vw j)))), (ad 5, .inl (cI, 6, .inl (fun j => nI (vp j)))), (ad 6, .inl (cI, 50, .inl (fun j => nI (tw j)))), (ad 7, .inl (cI, 6, .inl (fun j => nI (ab j)))), (ad 8, .inl (cI, 8, .inl (fun j => nI (am j))))]) ⟨hx, hb, hml, hown, hts⟩ (c_S_copy l D (ad 2) (ad 3) cL w (50 + nt * 4) ((50 + ka * 4) + kb) wd (by omega) (by omega) (by omega)) ⟨callB_of 3 hts (gW wd_130) rfl rfl rfl (hts _ wd_3) (hts _ wd_127) hd_S_copy ⟨Nat.le_of_ble_eq_true rfl, Nat.le_of_ble_eq_true rfl⟩, hts _ wd_128, hts _ wd_129⟩ XT_ok (fun _ _ _ => trivial) hK hP hD hS hA 2 1 rfl rfl rfl [0] [2, 3] [0, 1, 4, 5, 6, 7, 8] [0, 1, 7, 8, 2, 3, 4, 5, 6] rfl rfl rfl rfl rfl (by decide) rfl rfl rfl hl.1 rfl (Nat.le_of_ble_eq_true rfl) d_B_buildArranged_201 ⟨Nat.zero_le _, Nat.zero_le _⟩ (st1 := []) rfl (fun H locs hP hD hS => ?_)
  exact fn_vret hx hb hr hlocks hAe hK hP hD hS d_B_buildArranged_204
set_option maxHeartbeats 4000000 in
set_option maxRecDepth 100000 in
theorem c_B_buildRelation_0 (l : Launch) (D : va_G) (ad : Nat → Nat) (cL cI : ClassId) (nv nb nt nf na lv nm : Nat) (vw vp tw ab am : Nat → Nat) (w : Nat → Int64) (hok : Bok nv nb nt nf na lv nm vw vp tw ab am) (ka kb : Nat) (ha : ka < nt) (hb2 : kb < nt)  (hnf : nf < 50) : Fn l y_B_buildRelation (wk y_B_buildRelation b_B_buildRelation 6 none) rm_B_buildRelation D cls [(cL, .long), (cI, .int)] [.ref (ad 0), .int (nI 0), .int (nI ka), .int (nI kb)] (bsW ad cL cI nv nb nt nf na lv nm vw vp tw ab am w) XT none (bsW ad cL cI nv nb nt nf na lv nm vw vp tw ab am (cEq nf (50 + ka * 4) (50 + kb * 4) (tw ka) w)) := by
  refine Fn.of (by decide) rfl (Nat.le_of_ble_eq_true rfl) ?_
  intro p e s m below meth c A ls hx hb hml hr hts0 hown hlocks hnm hP hK hD hS hA hAe hX hl
  have hts : ∀ w ∈ lw_ok, w.before _ s = true := fun w h => hts0 w (List.mem_cons_of_mem _ h)
  have hown : s.vm.findClass R_B = some m.cls := hown
  have hP : va_P D cls (bsW ad cL cI nv nb nt nf na lv nm vw vp tw ab am w) s.heap := hP
  have hl : lv_has ls 6 [(0, .ref (ad 0)), (1, .int (nI 0)), (2, .int (nI ka)), (3, .int (nI kb))] := hl
  obtain ⟨o_nv, o_nb, o_nt, o_nf, o_na, o_lv, o_nm, o_vw, o_tw, o_am, o_ab⟩ := id hok
  have oa := o_tw ka ha
  have ob := o_tw kb hb2
  refine lv_aload_n hx hb d_B_buildRelation_0 rfl (lv_at hl 0 rfl) ?_
  refine va_get (D := D) (ci := 0) (v := .int (nI nf)) (C := R_B) (T := F_B) (N := 14) hx hb hts in_B hown hK hP 0 rfl rfl 8 (by decide) (hts _ wd_55) (fun _ h9 => h9) rfl d_B_buildRelation_1 ?_
  refine lv_istore (lv' := [(4, .int (nI nf)), (0, .ref (ad 0)), (1, .int (nI 0)), (2, .int (nI ka)), (3, .int (nI kb))]) hx hb d_B_buildRelation_4 hl (by decide) rfl (fun ls hl => ?_)
  refine lv_aload_n hx hb d_B_buildRelation_6 rfl (lv_at hl 1 rfl) ?_
  refine va_get (D := D) (ci := 0) (v := .ref (ad 6)) (C := R_B) (T := F_B) (N := 14) hx hb hts in_B hown hK hP 0 rfl rfl 6 (by decide) (hts _ wd_53) (fun _ h9 => h9) rfl d_B_buildRelation_7 ?_
  refine lv_iload_n hx hb d_B_buildRelation_10 rfl (lv_at hl 3 rfl) ?_
  refine n_iald hx hb hK hP 6 1 rfl rfl (i := ka) (by omega) (by omega) d_B_buildRelation_11 ?_
  refine lv_istore (lv' := [(5, .int (nI (tw ka))), (4, .int (nI nf)), (0, .ref (ad 0)), (1, .int (nI 0)), (2, .int (nI ka)), (3, .int (nI kb))]) hx hb d_B_buildRelation_12 hl (by decide) rfl (fun ls hl => ?_)
  refine lv_iload_n hx hb d_B_buildRelation_14 rfl (lv_at hl 3 rfl) ?_
  refine lv_tableIn (tgt := 48) (off := 33) hx hb d_B_buildRelation_15 (by decide +kernel) (by decide +kernel) (by decide +kernel) (by decide) ?_
  refine lv_aload_n hx hb d_B_buildRelation_48 rfl (lv_at hl 2 rfl) ?_
  refine va_get (D := D) (ci := 0) (v := .ref (ad 1)) (C := R_B) (T := F_B) (N := 14) hx hb hts in_B hown hK hP 0 rfl rfl 1 (by decide) (hts _ wd_48) (fun _ h9 => h9) rfl d_B_buildRelation_49 ?_
  refine lv_iload hx hb d_B_buildRelation_52 (lv_at hl 1 rfl) ?_
  refine lv_iload_n hx hb d_B_buildRelation_54 rfl (lv_at hl 4 rfl) ?_
  refine fn_S (ws' := (bsW ad cL cI nv nb nt nf na lv nm vw vp tw ab am w)) (w1 := (nilW)) (wc := (nilW)) (wr := [(ad 0, .inr (0, [.ref (ad 2), .ref (ad 1), .ref (ad 4), .ref (ad 5), .int (nI nv), .int (nI nb), .ref (ad 6), .int (nI nt), .int (nI nf), .ref (ad 7), .int (nI na), .int (nI lv), .ref (ad 8), .int (nI nm)])), (ad 1, .inr (2, [.ref (ad 2)])), (ad 2, .inr (1, [.ref (ad 3)])), (ad 3, .inl (cL, 4160, .inr (.inl w))), (ad 4, .inl (cI, 6, .inl (fun j => nI (vw j)))), (ad 5, .inl (cI, 6, .inl (fun j => nI (vp j)))), (ad 6, .inl (cI, 50, .inl (fun j => nI (tw j)))), (ad 7, .inl (cI, 6, .inl (fun j => nI (ab j)))), (ad 8, .inl (cI, 8, .inl (fun j => nI (am j))))]) ⟨hx, hb, hml, hown, hts⟩ (c_B_termRow l D ka) ⟨callB_of 1 hts (gW wd_267) rfl rfl rfl (hts _ wd_1) (hts _ wd_265) hd_B_termRow ⟨Nat.le_of_ble_eq_true rfl, Nat.le_of_ble_eq_true rfl⟩, hts _ wd_266⟩ XT_ok (fun _ _ _ => trivial) hK hP hD hS hA [] [] [0, 1, 2, 3, 4, 5, 6, 7, 8] [0, 1, 2, 3, 4, 5, 6, 7, 8] rfl rfl rfl rfl rfl (by decide) rfl rfl rfl hl.1 rfl (Nat.le_of_ble_eq_true rfl) d_B_buildRelation_55 ⟨Nat.zero_le _, Nat.zero_le _⟩ (st1 := [.int (nI (50 + ka * 4)), .int (nI nf), .ref (ad 1)]) rfl (fun H locs hP hD hS => ?_)
  refine lv_iload_n hx hb d_B_buildRelation_58 rfl (lv_at hl 5 rfl) ?_
  refine fn_S (ws' := (bsW ad cL cI nv nb nt nf na lv nm vw vp tw ab am w)) (w1 := (nilW)) (wc := (nilW)) (wr := [(ad 0, .inr (0, [.ref (ad 2), .ref (ad 1), .ref (ad 4), .ref (ad 5), .int (nI nv), .int (nI nb), .ref (ad 6), .int (nI nt), .int (nI nf), .ref (ad 7), .int (nI na), .int (nI lv), .ref (ad 8), .int (nI nm)])), (ad 1, .inr (2, [.ref (ad 2)])), (ad 2, .inr (1, [.ref (ad 3)])), (ad 3, .inl (cL, 4160, .inr (.inl w))), (ad 4, .inl (cI, 6, .inl (fun j => nI (vw j)))), (ad 5, .inl (cI, 6, .inl (fun j => nI (vp j)))), (ad 6, .inl (cI, 50, .inl (fun j => nI (tw j)))), (ad 7, .inl (cI, 6, .inl (fun j => nI (ab j)))), (ad 8, .inl (cI, 8, .inl (fun j => nI (am j))))]) ⟨hx, hb, hml, hown, hts⟩ (c_B_termRow l D kb) ⟨callB_of 1 hts (gW wd_267) rfl rfl rfl (hts _ wd_1) (hts _ wd_265) hd_B_termRow ⟨Nat.le_of_ble_eq_true rfl, Nat.le_of_ble_eq_true rfl⟩, hts _ wd_266⟩ XT_ok (fun _ _ _ => trivial) hK hP hD hS hA [] [] [0, 1, 2, 3, 4, 5, 6, 7, 8] [0, 1, 2, 3, 4, 5, 6, 7, 8] rfl rfl rfl rfl rfl (by decide) rfl rfl rfl hl.1 rfl (Nat.le_of_ble_eq_true rfl) d_B_buildRelation_59 ⟨Nat.zero_le _, Nat.zero_le _⟩ (st1 := [.int (nI (50 + kb * 4)), .int (nI (50 + ka * 4)), .int (nI nf), .ref (ad 1)]) rfl (fun H locs hP hD hS => ?_)
  refine lv_iload hx hb d_B_buildRelation_62 (lv_at hl 0 rfl) ?_
  refine fn_V (ws' := (bsW ad cL cI nv nb nt nf na lv nm vw vp tw ab am (cEq nf (50 + ka * 4) (50 + kb * 4) (tw ka) w))) (w1 := (circW (ad 1) (ad 2) (ad 3) cL (cEq nf (50 + ka * 4) (50 + kb * 4) (tw ka) w))) (wc := (circW (ad 1) (ad 2) (ad 3) cL w)) (wr := [(ad 0, .inr (0, [.ref (ad 2), .ref (ad 1), .ref (ad 4), .ref (ad 5), .int (nI nv), .int (nI nb), .ref (ad 6), .int (nI nt), .int (nI nf), .ref (ad 7), .int (nI na), .int (nI lv), .ref (ad 8), .int (nI nm)])), (ad 4, .inl (cI, 6, .inl (fun j => nI (vw j)))), (ad 5, .inl (cI, 6, .inl (fun j => nI (vp j)))), (ad 6, .inl (cI, 50, .inl (fun j => nI (tw j)))), (ad 7, .inl (cI, 6, .inl (fun j => nI (ab j)))), (ad 8, .inl (cI, 8, .inl (fun j => nI (am j))))]) ⟨hx, hb, hml, hown, hts⟩ (c_C_equal l D (ad 1) (ad 2) (ad 3) cL w nf (50 + ka * 4) (50 + kb * 4) (tw ka) (by omega) (by omega) (by omega)) ⟨callB_of 4 hts (gW wd_361) rfl rfl rfl (hts _ wd_2) (hts _ wd_358) hd_C_equal ⟨Nat.le_of_ble_eq_true rfl, Nat.le_of_ble_eq_true rfl⟩, hts _ wd_359, hts _ wd_360⟩ XT_ok (fun _ _ _ => trivial) hK hP hD hS hA 1 2 rfl rfl rfl [0] [1, 2, 3] [0, 4, 5, 6, 7, 8] [0, 6, 7, 8, 1, 2, 3, 4, 5] rfl rfl rfl rfl rfl (by decide) rfl rfl rfl hl.1 rfl (Nat.le_of_ble_eq_true rfl) d_B_buildRelation_64 ⟨Nat.zero_le _, Nat.zero_le _⟩ (st1 := []) rfl (fun H locs hP hD hS => ?_)
  refine lv_goto (tgt := 178) hx hb d_B_buildRelation_67 (by decide) ?_
  exact fn_vret hx hb hr hlocks hAe hK hP hD hS d_B_buildRelation_178
set_option maxHeartbeats 4000000 in
set_option maxRecDepth 100000 in
theorem c_B_buildRelation_1 (l : Launch) (D : va_G) (ad : Nat → Nat) (cL cI : ClassId) (nv nb nt nf na lv nm : Nat) (vw vp tw ab am : Nat → Nat) (w : Nat → Int64) (hok : Bok nv nb nt nf na lv nm vw vp tw ab am) (ka kb : Nat) (ha : ka < nt) (hb2 : kb < nt)  (hnf : nf < 50) : Fn l y_B_buildRelation (wk y_B_buildRelation b_B_buildRelation 6 none) rm_B_buildRelation D cls [(cL, .long), (cI, .int)] [.ref (ad 0), .int (nI 1), .int (nI ka), .int (nI kb)] (bsW ad cL cI nv nb nt nf na lv nm vw vp tw ab am w) XT none (bsW ad cL cI nv nb nt nf na lv nm vw vp tw ab am (cLess nf (50 + ka * 4) (50 + kb * 4) (tw ka) false w)) := by
  refine Fn.of (by decide) rfl (Nat.le_of_ble_eq_true rfl) ?_
  intro p e s m below meth c A ls hx hb hml hr hts0 hown hlocks hnm hP hK hD hS hA hAe hX hl
  have hts : ∀ w ∈ lw_ok, w.before _ s = true := fun w h => hts0 w (List.mem_cons_of_mem _ h)
  have hown : s.vm.findClass R_B = some m.cls := hown
  have hP : va_P D cls (bsW ad cL cI nv nb nt nf na lv nm vw vp tw ab am w) s.heap := hP
  have hl : lv_has ls 6 [(0, .ref (ad 0)), (1, .int (nI 1)), (2, .int (nI ka)), (3, .int (nI kb))] := hl
  obtain ⟨o_nv, o_nb, o_nt, o_nf, o_na, o_lv, o_nm, o_vw, o_tw, o_am, o_ab⟩ := id hok
  have oa := o_tw ka ha
  have ob := o_tw kb hb2
  refine lv_aload_n hx hb d_B_buildRelation_0 rfl (lv_at hl 0 rfl) ?_
  refine va_get (D := D) (ci := 0) (v := .int (nI nf)) (C := R_B) (T := F_B) (N := 14) hx hb hts in_B hown hK hP 0 rfl rfl 8 (by decide) (hts _ wd_55) (fun _ h9 => h9) rfl d_B_buildRelation_1 ?_
  refine lv_istore (lv' := [(4, .int (nI nf)), (0, .ref (ad 0)), (1, .int (nI 1)), (2, .int (nI ka)), (3, .int (nI kb))]) hx hb d_B_buildRelation_4 hl (by decide) rfl (fun ls hl => ?_)
  refine lv_aload_n hx hb d_B_buildRelation_6 rfl (lv_at hl 1 rfl) ?_
  refine va_get (D := D) (ci := 0) (v := .ref (ad 6)) (C := R_B) (T := F_B) (N := 14) hx hb hts in_B hown hK hP 0 rfl rfl 6 (by decide) (hts _ wd_53) (fun _ h9 => h9) rfl d_B_buildRelation_7 ?_
  refine lv_iload_n hx hb d_B_buildRelation_10 rfl (lv_at hl 3 rfl) ?_
  refine n_iald hx hb hK hP 6 1 rfl rfl (i := ka) (by omega) (by omega) d_B_buildRelation_11 ?_
  refine lv_istore (lv' := [(5, .int (nI (tw ka))), (4, .int (nI nf)), (0, .ref (ad 0)), (1, .int (nI 1)), (2, .int (nI ka)), (3, .int (nI kb))]) hx hb d_B_buildRelation_12 hl (by decide) rfl (fun ls hl => ?_)
  refine lv_iload_n hx hb d_B_buildRelation_14 rfl (lv_at hl 3 rfl) ?_
  refine lv_tableIn (tgt := 70) (off := 55) hx hb d_B_buildRelation_15 (by decide +kernel) (by decide +kernel) (by decide +kernel) (by decide) ?_
  refine lv_aload_n hx hb d_B_buildRelation_70 rfl (lv_at hl 2 rfl) ?_
  refine va_get (D := D) (ci := 0) (v := .ref (ad 1)) (C := R_B) (T := F_B) (N := 14) hx hb hts in_B hown hK hP 0 rfl rfl 1 (by decide) (hts _ wd_48) (fun _ h9 => h9) rfl d_B_buildRelation_71 ?_
  refine lv_iload hx hb d_B_buildRelation_74 (lv_at hl 1 rfl) ?_
  refine lv_iload_n hx hb d_B_buildRelation_76 rfl (lv_at hl 4 rfl) ?_
  refine fn_S (ws' := (bsW ad cL cI nv nb nt nf na lv nm vw vp tw ab am w)) (w1 := (nilW)) (wc := (nilW)) (wr := [(ad 0, .inr (0, [.ref (ad 2), .ref (ad 1), .ref (ad 4), .ref (ad 5), .int (nI nv), .int (nI nb), .ref (ad 6), .int (nI nt), .int (nI nf), .ref (ad 7), .int (nI na), .int (nI lv), .ref (ad 8), .int (nI nm)])), (ad 1, .inr (2, [.ref (ad 2)])), (ad 2, .inr (1, [.ref (ad 3)])), (ad 3, .inl (cL, 4160, .inr (.inl w))), (ad 4, .inl (cI, 6, .inl (fun j => nI (vw j)))), (ad 5, .inl (cI, 6, .inl (fun j => nI (vp j)))), (ad 6, .inl (cI, 50, .inl (fun j => nI (tw j)))), (ad 7, .inl (cI, 6, .inl (fun j => nI (ab j)))), (ad 8, .inl (cI, 8, .inl (fun j => nI (am j))))]) ⟨hx, hb, hml, hown, hts⟩ (c_B_termRow l D ka) ⟨callB_of 1 hts (gW wd_267) rfl rfl rfl (hts _ wd_1) (hts _ wd_265) hd_B_termRow ⟨Nat.le_of_ble_eq_true rfl, Nat.le_of_ble_eq_true rfl⟩, hts _ wd_266⟩ XT_ok (fun _ _ _ => trivial) hK hP hD hS hA [] [] [0, 1, 2, 3, 4, 5, 6, 7, 8] [0, 1, 2, 3, 4, 5, 6, 7, 8] rfl rfl rfl rfl rfl (by decide) rfl rfl rfl hl.1 rfl (Nat.le_of_ble_eq_true rfl) d_B_buildRelation_77 ⟨Nat.zero_le _, Nat.zero_le _⟩ (st1 := [.int (nI (50 + ka * 4)), .int (nI nf), .ref (ad 1)]) rfl (fun H locs hP hD hS => ?_)
  refine lv_iload_n hx hb d_B_buildRelation_80 rfl (lv_at hl 5 rfl) ?_
  refine fn_S (ws' := (bsW ad cL cI nv nb nt nf na lv nm vw vp tw ab am w)) (w1 := (nilW)) (wc := (nilW)) (wr := [(ad 0, .inr (0, [.ref (ad 2), .ref (ad 1), .ref (ad 4), .ref (ad 5), .int (nI nv), .int (nI nb), .ref (ad 6), .int (nI nt), .int (nI nf), .ref (ad 7), .int (nI na), .int (nI lv), .ref (ad 8), .int (nI nm)])), (ad 1, .inr (2, [.ref (ad 2)])), (ad 2, .inr (1, [.ref (ad 3)])), (ad 3, .inl (cL, 4160, .inr (.inl w))), (ad 4, .inl (cI, 6, .inl (fun j => nI (vw j)))), (ad 5, .inl (cI, 6, .inl (fun j => nI (vp j)))), (ad 6, .inl (cI, 50, .inl (fun j => nI (tw j)))), (ad 7, .inl (cI, 6, .inl (fun j => nI (ab j)))), (ad 8, .inl (cI, 8, .inl (fun j => nI (am j))))]) ⟨hx, hb, hml, hown, hts⟩ (c_B_termRow l D kb) ⟨callB_of 1 hts (gW wd_267) rfl rfl rfl (hts _ wd_1) (hts _ wd_265) hd_B_termRow ⟨Nat.le_of_ble_eq_true rfl, Nat.le_of_ble_eq_true rfl⟩, hts _ wd_266⟩ XT_ok (fun _ _ _ => trivial) hK hP hD hS hA [] [] [0, 1, 2, 3, 4, 5, 6, 7, 8] [0, 1, 2, 3, 4, 5, 6, 7, 8] rfl rfl rfl rfl rfl (by decide) rfl rfl rfl hl.1 rfl (Nat.le_of_ble_eq_true rfl) d_B_buildRelation_81 ⟨Nat.zero_le _, Nat.zero_le _⟩ (st1 := [.int (nI (50 + kb * 4)), .int (nI (50 + ka * 4)), .int (nI nf), .ref (ad 1)]) rfl (fun H locs hP hD hS => ?_)
  refine lv_iload hx hb d_B_buildRelation_84 (lv_at hl 0 rfl) ?_
  refine lv_iconst (v := nI 0) hx hb d_B_buildRelation_86 (by decide) ?_
  refine fn_V (ws' := (bsW ad cL cI nv nb nt nf na lv nm vw vp tw ab am (cLess nf (50 + ka * 4) (50 + kb * 4) (tw ka) false w))) (w1 := (circW (ad 1) (ad 2) (ad 3) cL (cLess nf (50 + ka * 4) (50 + kb * 4) (tw ka) false w))) (wc := (circW (ad 1) (ad 2) (ad 3) cL w)) (wr := [(ad 0, .inr (0, [.ref (ad 2), .ref (ad 1), .ref (ad 4), .ref (ad 5), .int (nI nv), .int (nI nb), .ref (ad 6), .int (nI nt), .int (nI nf), .ref (ad 7), .int (nI na), .int (nI lv), .ref (ad 8), .int (nI nm)])), (ad 4, .inl (cI, 6, .inl (fun j => nI (vw j)))), (ad 5, .inl (cI, 6, .inl (fun j => nI (vp j)))), (ad 6, .inl (cI, 50, .inl (fun j => nI (tw j)))), (ad 7, .inl (cI, 6, .inl (fun j => nI (ab j)))), (ad 8, .inl (cI, 8, .inl (fun j => nI (am j))))]) ⟨hx, hb, hml, hown, hts⟩ (c_C_less l D (ad 1) (ad 2) (ad 3) cL w nf (50 + ka * 4) (50 + kb * 4) (tw ka) false (by omega) (by omega) (by omega)) ⟨callB_of 5 hts (gW wd_369) rfl rfl rfl (hts _ wd_2) (hts _ wd_366) hd_C_less ⟨Nat.le_of_ble_eq_true rfl, Nat.le_of_ble_eq_true rfl⟩, hts _ wd_367, hts _ wd_368⟩ XT_ok (fun _ _ _ => trivial) hK hP hD hS hA 1 2 rfl rfl rfl [0] [1, 2, 3] [0, 4, 5, 6, 7, 8] [0, 6, 7, 8, 1, 2, 3, 4, 5] rfl rfl rfl rfl rfl (by decide) rfl rfl rfl hl.1 rfl (Nat.le_of_ble_eq_true rfl) d_B_buildRelation_87 ⟨Nat.zero_le _, Nat.zero_le _⟩ (st1 := []) rfl (fun H locs hP hD hS => ?_)
  refine lv_goto (tgt := 178) hx hb d_B_buildRelation_90 (by decide) ?_
  exact fn_vret hx hb hr hlocks hAe hK hP hD hS d_B_buildRelation_178
set_option maxHeartbeats 4000000 in
set_option maxRecDepth 100000 in
theorem c_B_buildRelation_2 (l : Launch) (D : va_G) (ad : Nat → Nat) (cL cI : ClassId) (nv nb nt nf na lv nm : Nat) (vw vp tw ab am : Nat → Nat) (w : Nat → Int64) (hok : Bok nv nb nt nf na lv nm vw vp tw ab am) (ka kb : Nat) (ha : ka < nt) (hb2 : kb < nt)  (hnf : nf < 50) : Fn l y_B_buildRelation (wk y_B_buildRelation b_B_buildRelation 6 none) rm_B_buildRelation D cls [(cL, .long), (cI, .int)] [.ref (ad 0), .int (nI 2), .int (nI ka), .int (nI kb)] (bsW ad cL cI nv nb nt nf na lv nm vw vp tw ab am w) XT none (bsW ad cL cI nv nb nt nf na lv nm vw vp tw ab am (cAtMost nf (50 + ka * 4) (50 + kb * 4) (tw ka) false w)) := by
  refine Fn.of (by decide) rfl (Nat.le_of_ble_eq_true rfl) ?_
  intro p e s m below meth c A ls hx hb hml hr hts0 hown hlocks hnm hP hK hD hS hA hAe hX hl
  have hts : ∀ w ∈ lw_ok, w.before _ s = true := fun w h => hts0 w (List.mem_cons_of_mem _ h)
  have hown : s.vm.findClass R_B = some m.cls := hown
  have hP : va_P D cls (bsW ad cL cI nv nb nt nf na lv nm vw vp tw ab am w) s.heap := hP
  have hl : lv_has ls 6 [(0, .ref (ad 0)), (1, .int (nI 2)), (2, .int (nI ka)), (3, .int (nI kb))] := hl
  obtain ⟨o_nv, o_nb, o_nt, o_nf, o_na, o_lv, o_nm, o_vw, o_tw, o_am, o_ab⟩ := id hok
  have oa := o_tw ka ha
  have ob := o_tw kb hb2
  refine lv_aload_n hx hb d_B_buildRelation_0 rfl (lv_at hl 0 rfl) ?_
  refine va_get (D := D) (ci := 0) (v := .int (nI nf)) (C := R_B) (T := F_B) (N := 14) hx hb hts in_B hown hK hP 0 rfl rfl 8 (by decide) (hts _ wd_55) (fun _ h9 => h9) rfl d_B_buildRelation_1 ?_
  refine lv_istore (lv' := [(4, .int (nI nf)), (0, .ref (ad 0)), (1, .int (nI 2)), (2, .int (nI ka)), (3, .int (nI kb))]) hx hb d_B_buildRelation_4 hl (by decide) rfl (fun ls hl => ?_)
  refine lv_aload_n hx hb d_B_buildRelation_6 rfl (lv_at hl 1 rfl) ?_
  refine va_get (D := D) (ci := 0) (v := .ref (ad 6)) (C := R_B) (T := F_B) (N := 14) hx hb hts in_B hown hK hP 0 rfl rfl 6 (by decide) (hts _ wd_53) (fun _ h9 => h9) rfl d_B_buildRelation_7 ?_
  refine lv_iload_n hx hb d_B_buildRelation_10 rfl (lv_at hl 3 rfl) ?_
  refine n_iald hx hb hK hP 6 1 rfl rfl (i := ka) (by omega) (by omega) d_B_buildRelation_11 ?_
  refine lv_istore (lv' := [(5, .int (nI (tw ka))), (4, .int (nI nf)), (0, .ref (ad 0)), (1, .int (nI 2)), (2, .int (nI ka)), (3, .int (nI kb))]) hx hb d_B_buildRelation_12 hl (by decide) rfl (fun ls hl => ?_)
  refine lv_iload_n hx hb d_B_buildRelation_14 rfl (lv_at hl 3 rfl) ?_
  refine lv_tableIn (tgt := 93) (off := 78) hx hb d_B_buildRelation_15 (by decide +kernel) (by decide +kernel) (by decide +kernel) (by decide) ?_
  refine lv_aload_n hx hb d_B_buildRelation_93 rfl (lv_at hl 2 rfl) ?_
  refine va_get (D := D) (ci := 0) (v := .ref (ad 1)) (C := R_B) (T := F_B) (N := 14) hx hb hts in_B hown hK hP 0 rfl rfl 1 (by decide) (hts _ wd_48) (fun _ h9 => h9) rfl d_B_buildRelation_94 ?_
  refine lv_iload hx hb d_B_buildRelation_97 (lv_at hl 1 rfl) ?_
  refine lv_iload_n hx hb d_B_buildRelation_99 rfl (lv_at hl 4 rfl) ?_
  refine fn_S (ws' := (bsW ad cL cI nv nb nt nf na lv nm vw vp tw ab am w)) (w1 := (nilW)) (wc := (nilW)) (wr := [(ad 0, .inr (0, [.ref (ad 2), .ref (ad 1), .ref (ad 4), .ref (ad 5), .int (nI nv), .int (nI nb), .ref (ad 6), .int (nI nt), .int (nI nf), .ref (ad 7), .int (nI na), .int (nI lv), .ref (ad 8), .int (nI nm)])), (ad 1, .inr (2, [.ref (ad 2)])), (ad 2, .inr (1, [.ref (ad 3)])), (ad 3, .inl (cL, 4160, .inr (.inl w))), (ad 4, .inl (cI, 6, .inl (fun j => nI (vw j)))), (ad 5, .inl (cI, 6, .inl (fun j => nI (vp j)))), (ad 6, .inl (cI, 50, .inl (fun j => nI (tw j)))), (ad 7, .inl (cI, 6, .inl (fun j => nI (ab j)))), (ad 8, .inl (cI, 8, .inl (fun j => nI (am j))))]) ⟨hx, hb, hml, hown, hts⟩ (c_B_termRow l D ka) ⟨callB_of 1 hts (gW wd_267) rfl rfl rfl (hts _ wd_1) (hts _ wd_265) hd_B_termRow ⟨Nat.le_of_ble_eq_true rfl, Nat.le_of_ble_eq_true rfl⟩, hts _ wd_266⟩ XT_ok (fun _ _ _ => trivial) hK hP hD hS hA [] [] [0, 1, 2, 3, 4, 5, 6, 7, 8] [0, 1, 2, 3, 4, 5, 6, 7, 8] rfl rfl rfl rfl rfl (by decide) rfl rfl rfl hl.1 rfl (Nat.le_of_ble_eq_true rfl) d_B_buildRelation_100 ⟨Nat.zero_le _, Nat.zero_le _⟩ (st1 := [.int (nI (50 + ka * 4)), .int (nI nf), .ref (ad 1)]) rfl (fun H locs hP hD hS => ?_)
  refine lv_iload_n hx hb d_B_buildRelation_103 rfl (lv_at hl 5 rfl) ?_
  refine fn_S (ws' := (bsW ad cL cI nv nb nt nf na lv nm vw vp tw ab am w)) (w1 := (nilW)) (wc := (nilW)) (wr := [(ad 0, .inr (0, [.ref (ad 2), .ref (ad 1), .ref (ad 4), .ref (ad 5), .int (nI nv), .int (nI nb), .ref (ad 6), .int (nI nt), .int (nI nf), .ref (ad 7), .int (nI na), .int (nI lv), .ref (ad 8), .int (nI nm)])), (ad 1, .inr (2, [.ref (ad 2)])), (ad 2, .inr (1, [.ref (ad 3)])), (ad 3, .inl (cL, 4160, .inr (.inl w))), (ad 4, .inl (cI, 6, .inl (fun j => nI (vw j)))), (ad 5, .inl (cI, 6, .inl (fun j => nI (vp j)))), (ad 6, .inl (cI, 50, .inl (fun j => nI (tw j)))), (ad 7, .inl (cI, 6, .inl (fun j => nI (ab j)))), (ad 8, .inl (cI, 8, .inl (fun j => nI (am j))))]) ⟨hx, hb, hml, hown, hts⟩ (c_B_termRow l D kb) ⟨callB_of 1 hts (gW wd_267) rfl rfl rfl (hts _ wd_1) (hts _ wd_265) hd_B_termRow ⟨Nat.le_of_ble_eq_true rfl, Nat.le_of_ble_eq_true rfl⟩, hts _ wd_266⟩ XT_ok (fun _ _ _ => trivial) hK hP hD hS hA [] [] [0, 1, 2, 3, 4, 5, 6, 7, 8] [0, 1, 2, 3, 4, 5, 6, 7, 8] rfl rfl rfl rfl rfl (by decide) rfl rfl rfl hl.1 rfl (Nat.le_of_ble_eq_true rfl) d_B_buildRelation_104 ⟨Nat.zero_le _, Nat.zero_le _⟩ (st1 := [.int (nI (50 + kb * 4)), .int (nI (50 + ka * 4)), .int (nI nf), .ref (ad 1)]) rfl (fun H locs hP hD hS => ?_)
  refine lv_iload hx hb d_B_buildRelation_107 (lv_at hl 0 rfl) ?_
  refine lv_iconst (v := nI 0) hx hb d_B_buildRelation_109 (by decide) ?_
  refine fn_V (ws' := (bsW ad cL cI nv nb nt nf na lv nm vw vp tw ab am (cAtMost nf (50 + ka * 4) (50 + kb * 4) (tw ka) false w))) (w1 := (circW (ad 1) (ad 2) (ad 3) cL (cAtMost nf (50 + ka * 4) (50 + kb * 4) (tw ka) false w))) (wc := (circW (ad 1) (ad 2) (ad 3) cL w)) (wr := [(ad 0, .inr (0, [.ref (ad 2), .ref (ad 1), .ref (ad 4), .ref (ad 5), .int (nI nv), .int (nI nb), .ref (ad 6), .int (nI nt), .int (nI nf), .ref (ad 7), .int (nI na), .int (nI lv), .ref (ad 8), .int (nI nm)])), (ad 4, .inl (cI, 6, .inl (fun j => nI (vw j)))), (ad 5, .inl (cI, 6, .inl (fun j => nI (vp j)))), (ad 6, .inl (cI, 50, .inl (fun j => nI (tw j)))), (ad 7, .inl (cI, 6, .inl (fun j => nI (ab j)))), (ad 8, .inl (cI, 8, .inl (fun j => nI (am j))))]) ⟨hx, hb, hml, hown, hts⟩ (c_C_atMost l D (ad 1) (ad 2) (ad 3) cL w nf (50 + ka * 4) (50 + kb * 4) (tw ka) false (by omega) (by omega) (by omega)) ⟨callB_of 5 hts (gW wd_373) rfl rfl rfl (hts _ wd_2) (hts _ wd_370) hd_C_atMost ⟨Nat.le_of_ble_eq_true rfl, Nat.le_of_ble_eq_true rfl⟩, hts _ wd_371, hts _ wd_372⟩ XT_ok (fun _ _ _ => trivial) hK hP hD hS hA 1 2 rfl rfl rfl [0] [1, 2, 3] [0, 4, 5, 6, 7, 8] [0, 6, 7, 8, 1, 2, 3, 4, 5] rfl rfl rfl rfl rfl (by decide) rfl rfl rfl hl.1 rfl (Nat.le_of_ble_eq_true rfl) d_B_buildRelation_110 ⟨Nat.zero_le _, Nat.zero_le _⟩ (st1 := []) rfl (fun H locs hP hD hS => ?_)
  refine lv_goto (tgt := 178) hx hb d_B_buildRelation_113 (by decide) ?_
  exact fn_vret hx hb hr hlocks hAe hK hP hD hS d_B_buildRelation_178
set_option maxHeartbeats 4000000 in
set_option maxRecDepth 100000 in
theorem c_B_buildRelation_3 (l : Launch) (D : va_G) (ad : Nat → Nat) (cL cI : ClassId) (nv nb nt nf na lv nm : Nat) (vw vp tw ab am : Nat → Nat) (w : Nat → Int64) (hok : Bok nv nb nt nf na lv nm vw vp tw ab am) (ka kb : Nat) (ha : ka < nt) (hb2 : kb < nt)  (hnf : nf < 50) : Fn l y_B_buildRelation (wk y_B_buildRelation b_B_buildRelation 6 none) rm_B_buildRelation D cls [(cL, .long), (cI, .int)] [.ref (ad 0), .int (nI 3), .int (nI ka), .int (nI kb)] (bsW ad cL cI nv nb nt nf na lv nm vw vp tw ab am w) XT none (bsW ad cL cI nv nb nt nf na lv nm vw vp tw ab am (cLess nf (50 + ka * 4) (50 + kb * 4) (tw ka) true w)) := by
  refine Fn.of (by decide) rfl (Nat.le_of_ble_eq_true rfl) ?_
  intro p e s m below meth c A ls hx hb hml hr hts0 hown hlocks hnm hP hK hD hS hA hAe hX hl
  have hts : ∀ w ∈ lw_ok, w.before _ s = true := fun w h => hts0 w (List.mem_cons_of_mem _ h)
  have hown : s.vm.findClass R_B = some m.cls := hown
  have hP : va_P D cls (bsW ad cL cI nv nb nt nf na lv nm vw vp tw ab am w) s.heap := hP
  have hl : lv_has ls 6 [(0, .ref (ad 0)), (1, .int (nI 3)), (2, .int (nI ka)), (3, .int (nI kb))] := hl
  obtain ⟨o_nv, o_nb, o_nt, o_nf, o_na, o_lv, o_nm, o_vw, o_tw, o_am, o_ab⟩ := id hok
  have oa := o_tw ka ha
  have ob := o_tw kb hb2
  refine lv_aload_n hx hb d_B_buildRelation_0 rfl (lv_at hl 0 rfl) ?_
  refine va_get (D := D) (ci := 0) (v := .int (nI nf)) (C := R_B) (T := F_B) (N := 14) hx hb hts in_B hown hK hP 0 rfl rfl 8 (by decide) (hts _ wd_55) (fun _ h9 => h9) rfl d_B_buildRelation_1 ?_
  refine lv_istore (lv' := [(4, .int (nI nf)), (0, .ref (ad 0)), (1, .int (nI 3)), (2, .int (nI ka)), (3, .int (nI kb))]) hx hb d_B_buildRelation_4 hl (by decide) rfl (fun ls hl => ?_)
  refine lv_aload_n hx hb d_B_buildRelation_6 rfl (lv_at hl 1 rfl) ?_
  refine va_get (D := D) (ci := 0) (v := .ref (ad 6)) (C := R_B) (T := F_B) (N := 14) hx hb hts in_B hown hK hP 0 rfl rfl 6 (by decide) (hts _ wd_53) (fun _ h9 => h9) rfl d_B_buildRelation_7 ?_
  refine lv_iload_n hx hb d_B_buildRelation_10 rfl (lv_at hl 3 rfl) ?_
  refine n_iald hx hb hK hP 6 1 rfl rfl (i := ka) (by omega) (by omega) d_B_buildRelation_11 ?_
  refine lv_istore (lv' := [(5, .int (nI (tw ka))), (4, .int (nI nf)), (0, .ref (ad 0)), (1, .int (nI 3)), (2, .int (nI ka)), (3, .int (nI kb))]) hx hb d_B_buildRelation_12 hl (by decide) rfl (fun ls hl => ?_)
  refine lv_iload_n hx hb d_B_buildRelation_14 rfl (lv_at hl 3 rfl) ?_
  refine lv_tableIn (tgt := 116) (off := 101) hx hb d_B_buildRelation_15 (by decide +kernel) (by decide +kernel) (by decide +kernel) (by decide) ?_
  refine lv_aload_n hx hb d_B_buildRelation_116 rfl (lv_at hl 2 rfl) ?_
  refine va_get (D := D) (ci := 0) (v := .ref (ad 1)) (C := R_B) (T := F_B) (N := 14) hx hb hts in_B hown hK hP 0 rfl rfl 1 (by decide) (hts _ wd_48) (fun _ h9 => h9) rfl d_B_buildRelation_117 ?_
  refine lv_iload hx hb d_B_buildRelation_120 (lv_at hl 1 rfl) ?_
  refine lv_iload_n hx hb d_B_buildRelation_122 rfl (lv_at hl 4 rfl) ?_
  refine fn_S (ws' := (bsW ad cL cI nv nb nt nf na lv nm vw vp tw ab am w)) (w1 := (nilW)) (wc := (nilW)) (wr := [(ad 0, .inr (0, [.ref (ad 2), .ref (ad 1), .ref (ad 4), .ref (ad 5), .int (nI nv), .int (nI nb), .ref (ad 6), .int (nI nt), .int (nI nf), .ref (ad 7), .int (nI na), .int (nI lv), .ref (ad 8), .int (nI nm)])), (ad 1, .inr (2, [.ref (ad 2)])), (ad 2, .inr (1, [.ref (ad 3)])), (ad 3, .inl (cL, 4160, .inr (.inl w))), (ad 4, .inl (cI, 6, .inl (fun j => nI (vw j)))), (ad 5, .inl (cI, 6, .inl (fun j => nI (vp j)))), (ad 6, .inl (cI, 50, .inl (fun j => nI (tw j)))), (ad 7, .inl (cI, 6, .inl (fun j => nI (ab j)))), (ad 8, .inl (cI, 8, .inl (fun j => nI (am j))))]) ⟨hx, hb, hml, hown, hts⟩ (c_B_termRow l D ka) ⟨callB_of 1 hts (gW wd_267) rfl rfl rfl (hts _ wd_1) (hts _ wd_265) hd_B_termRow ⟨Nat.le_of_ble_eq_true rfl, Nat.le_of_ble_eq_true rfl⟩, hts _ wd_266⟩ XT_ok (fun _ _ _ => trivial) hK hP hD hS hA [] [] [0, 1, 2, 3, 4, 5, 6, 7, 8] [0, 1, 2, 3, 4, 5, 6, 7, 8] rfl rfl rfl rfl rfl (by decide) rfl rfl rfl hl.1 rfl (Nat.le_of_ble_eq_true rfl) d_B_buildRelation_123 ⟨Nat.zero_le _, Nat.zero_le _⟩ (st1 := [.int (nI (50 + ka * 4)), .int (nI nf), .ref (ad 1)]) rfl (fun H locs hP hD hS => ?_)
  refine lv_iload_n hx hb d_B_buildRelation_126 rfl (lv_at hl 5 rfl) ?_
  refine fn_S (ws' := (bsW ad cL cI nv nb nt nf na lv nm vw vp tw ab am w)) (w1 := (nilW)) (wc := (nilW)) (wr := [(ad 0, .inr (0, [.ref (ad 2), .ref (ad 1), .ref (ad 4), .ref (ad 5), .int (nI nv), .int (nI nb), .ref (ad 6), .int (nI nt), .int (nI nf), .ref (ad 7), .int (nI na), .int (nI lv), .ref (ad 8), .int (nI nm)])), (ad 1, .inr (2, [.ref (ad 2)])), (ad 2, .inr (1, [.ref (ad 3)])), (ad 3, .inl (cL, 4160, .inr (.inl w))), (ad 4, .inl (cI, 6, .inl (fun j => nI (vw j)))), (ad 5, .inl (cI, 6, .inl (fun j => nI (vp j)))), (ad 6, .inl (cI, 50, .inl (fun j => nI (tw j)))), (ad 7, .inl (cI, 6, .inl (fun j => nI (ab j)))), (ad 8, .inl (cI, 8, .inl (fun j => nI (am j))))]) ⟨hx, hb, hml, hown, hts⟩ (c_B_termRow l D kb) ⟨callB_of 1 hts (gW wd_267) rfl rfl rfl (hts _ wd_1) (hts _ wd_265) hd_B_termRow ⟨Nat.le_of_ble_eq_true rfl, Nat.le_of_ble_eq_true rfl⟩, hts _ wd_266⟩ XT_ok (fun _ _ _ => trivial) hK hP hD hS hA [] [] [0, 1, 2, 3, 4, 5, 6, 7, 8] [0, 1, 2, 3, 4, 5, 6, 7, 8] rfl rfl rfl rfl rfl (by decide) rfl rfl rfl hl.1 rfl (Nat.le_of_ble_eq_true rfl) d_B_buildRelation_127 ⟨Nat.zero_le _, Nat.zero_le _⟩ (st1 := [.int (nI (50 + kb * 4)), .int (nI (50 + ka * 4)), .int (nI nf), .ref (ad 1)]) rfl (fun H locs hP hD hS => ?_)
  refine lv_iload hx hb d_B_buildRelation_130 (lv_at hl 0 rfl) ?_
  refine lv_iconst (v := nI 1) hx hb d_B_buildRelation_132 (by decide) ?_
  refine fn_V (ws' := (bsW ad cL cI nv nb nt nf na lv nm vw vp tw ab am (cLess nf (50 + ka * 4) (50 + kb * 4) (tw ka) true w))) (w1 := (circW (ad 1) (ad 2) (ad 3) cL (cLess nf (50 + ka * 4) (50 + kb * 4) (tw ka) true w))) (wc := (circW (ad 1) (ad 2) (ad 3) cL w)) (wr := [(ad 0, .inr (0, [.ref (ad 2), .ref (ad 1), .ref (ad 4), .ref (ad 5), .int (nI nv), .int (nI nb), .ref (ad 6), .int (nI nt), .int (nI nf), .ref (ad 7), .int (nI na), .int (nI lv), .ref (ad 8), .int (nI nm)])), (ad 4, .inl (cI, 6, .inl (fun j => nI (vw j)))), (ad 5, .inl (cI, 6, .inl (fun j => nI (vp j)))), (ad 6, .inl (cI, 50, .inl (fun j => nI (tw j)))), (ad 7, .inl (cI, 6, .inl (fun j => nI (ab j)))), (ad 8, .inl (cI, 8, .inl (fun j => nI (am j))))]) ⟨hx, hb, hml, hown, hts⟩ (c_C_less l D (ad 1) (ad 2) (ad 3) cL w nf (50 + ka * 4) (50 + kb * 4) (tw ka) true (by omega) (by omega) (by omega)) ⟨callB_of 5 hts (gW wd_369) rfl rfl rfl (hts _ wd_2) (hts _ wd_366) hd_C_less ⟨Nat.le_of_ble_eq_true rfl, Nat.le_of_ble_eq_true rfl⟩, hts _ wd_367, hts _ wd_368⟩ XT_ok (fun _ _ _ => trivial) hK hP hD hS hA 1 2 rfl rfl rfl [0] [1, 2, 3] [0, 4, 5, 6, 7, 8] [0, 6, 7, 8, 1, 2, 3, 4, 5] rfl rfl rfl rfl rfl (by decide) rfl rfl rfl hl.1 rfl (Nat.le_of_ble_eq_true rfl) d_B_buildRelation_133 ⟨Nat.zero_le _, Nat.zero_le _⟩ (st1 := []) rfl (fun H locs hP hD hS => ?_)
  refine lv_goto (tgt := 178) hx hb d_B_buildRelation_136 (by decide) ?_
  exact fn_vret hx hb hr hlocks hAe hK hP hD hS d_B_buildRelation_178
set_option maxHeartbeats 4000000 in
set_option maxRecDepth 100000 in
theorem c_B_buildRelation_4 (l : Launch) (D : va_G) (ad : Nat → Nat) (cL cI : ClassId) (nv nb nt nf na lv nm : Nat) (vw vp tw ab am : Nat → Nat) (w : Nat → Int64) (hok : Bok nv nb nt nf na lv nm vw vp tw ab am) (ka kb : Nat) (ha : ka < nt) (hb2 : kb < nt)  (hnf : nf < 50) : Fn l y_B_buildRelation (wk y_B_buildRelation b_B_buildRelation 6 none) rm_B_buildRelation D cls [(cL, .long), (cI, .int)] [.ref (ad 0), .int (nI 4), .int (nI ka), .int (nI kb)] (bsW ad cL cI nv nb nt nf na lv nm vw vp tw ab am w) XT none (bsW ad cL cI nv nb nt nf na lv nm vw vp tw ab am (cAtMost nf (50 + ka * 4) (50 + kb * 4) (tw ka) true w)) := by
  refine Fn.of (by decide) rfl (Nat.le_of_ble_eq_true rfl) ?_
  intro p e s m below meth c A ls hx hb hml hr hts0 hown hlocks hnm hP hK hD hS hA hAe hX hl
  have hts : ∀ w ∈ lw_ok, w.before _ s = true := fun w h => hts0 w (List.mem_cons_of_mem _ h)
  have hown : s.vm.findClass R_B = some m.cls := hown
  have hP : va_P D cls (bsW ad cL cI nv nb nt nf na lv nm vw vp tw ab am w) s.heap := hP
  have hl : lv_has ls 6 [(0, .ref (ad 0)), (1, .int (nI 4)), (2, .int (nI ka)), (3, .int (nI kb))] := hl
  obtain ⟨o_nv, o_nb, o_nt, o_nf, o_na, o_lv, o_nm, o_vw, o_tw, o_am, o_ab⟩ := id hok
  have oa := o_tw ka ha
  have ob := o_tw kb hb2
  refine lv_aload_n hx hb d_B_buildRelation_0 rfl (lv_at hl 0 rfl) ?_
  refine va_get (D := D) (ci := 0) (v := .int (nI nf)) (C := R_B) (T := F_B) (N := 14) hx hb hts in_B hown hK hP 0 rfl rfl 8 (by decide) (hts _ wd_55) (fun _ h9 => h9) rfl d_B_buildRelation_1 ?_
  refine lv_istore (lv' := [(4, .int (nI nf)), (0, .ref (ad 0)), (1, .int (nI 4)), (2, .int (nI ka)), (3, .int (nI kb))]) hx hb d_B_buildRelation_4 hl (by decide) rfl (fun ls hl => ?_)
  refine lv_aload_n hx hb d_B_buildRelation_6 rfl (lv_at hl 1 rfl) ?_
  refine va_get (D := D) (ci := 0) (v := .ref (ad 6)) (C := R_B) (T := F_B) (N := 14) hx hb hts in_B hown hK hP 0 rfl rfl 6 (by decide) (hts _ wd_53) (fun _ h9 => h9) rfl d_B_buildRelation_7 ?_
  refine lv_iload_n hx hb d_B_buildRelation_10 rfl (lv_at hl 3 rfl) ?_
  refine n_iald hx hb hK hP 6 1 rfl rfl (i := ka) (by omega) (by omega) d_B_buildRelation_11 ?_
  refine lv_istore (lv' := [(5, .int (nI (tw ka))), (4, .int (nI nf)), (0, .ref (ad 0)), (1, .int (nI 4)), (2, .int (nI ka)), (3, .int (nI kb))]) hx hb d_B_buildRelation_12 hl (by decide) rfl (fun ls hl => ?_)
  refine lv_iload_n hx hb d_B_buildRelation_14 rfl (lv_at hl 3 rfl) ?_
  refine lv_tableIn (tgt := 139) (off := 124) hx hb d_B_buildRelation_15 (by decide +kernel) (by decide +kernel) (by decide +kernel) (by decide) ?_
  refine lv_aload_n hx hb d_B_buildRelation_139 rfl (lv_at hl 2 rfl) ?_
  refine va_get (D := D) (ci := 0) (v := .ref (ad 1)) (C := R_B) (T := F_B) (N := 14) hx hb hts in_B hown hK hP 0 rfl rfl 1 (by decide) (hts _ wd_48) (fun _ h9 => h9) rfl d_B_buildRelation_140 ?_
  refine lv_iload hx hb d_B_buildRelation_143 (lv_at hl 1 rfl) ?_
  refine lv_iload_n hx hb d_B_buildRelation_145 rfl (lv_at hl 4 rfl) ?_
  refine fn_S (ws' := (bsW ad cL cI nv nb nt nf na lv nm vw vp tw ab am w)) (w1 := (nilW)) (wc := (nilW)) (wr := [(ad 0, .inr (0, [.ref (ad 2), .ref (ad 1), .ref (ad 4), .ref (ad 5), .int (nI nv), .int (nI nb), .ref (ad 6), .int (nI nt), .int (nI nf), .ref (ad 7), .int (nI na), .int (nI lv), .ref (ad 8), .int (nI nm)])), (ad 1, .inr (2, [.ref (ad 2)])), (ad 2, .inr (1, [.ref (ad 3)])), (ad 3, .inl (cL, 4160, .inr (.inl w))), (ad 4, .inl (cI, 6, .inl (fun j => nI (vw j)))), (ad 5, .inl (cI, 6, .inl (fun j => nI (vp j)))), (ad 6, .inl (cI, 50, .inl (fun j => nI (tw j)))), (ad 7, .inl (cI, 6, .inl (fun j => nI (ab j)))), (ad 8, .inl (cI, 8, .inl (fun j => nI (am j))))]) ⟨hx, hb, hml, hown, hts⟩ (c_B_termRow l D ka) ⟨callB_of 1 hts (gW wd_267) rfl rfl rfl (hts _ wd_1) (hts _ wd_265) hd_B_termRow ⟨Nat.le_of_ble_eq_true rfl, Nat.le_of_ble_eq_true rfl⟩, hts _ wd_266⟩ XT_ok (fun _ _ _ => trivial) hK hP hD hS hA [] [] [0, 1, 2, 3, 4, 5, 6, 7, 8] [0, 1, 2, 3, 4, 5, 6, 7, 8] rfl rfl rfl rfl rfl (by decide) rfl rfl rfl hl.1 rfl (Nat.le_of_ble_eq_true rfl) d_B_buildRelation_146 ⟨Nat.zero_le _, Nat.zero_le _⟩ (st1 := [.int (nI (50 + ka * 4)), .int (nI nf), .ref (ad 1)]) rfl (fun H locs hP hD hS => ?_)
  refine lv_iload_n hx hb d_B_buildRelation_149 rfl (lv_at hl 5 rfl) ?_
  refine fn_S (ws' := (bsW ad cL cI nv nb nt nf na lv nm vw vp tw ab am w)) (w1 := (nilW)) (wc := (nilW)) (wr := [(ad 0, .inr (0, [.ref (ad 2), .ref (ad 1), .ref (ad 4), .ref (ad 5), .int (nI nv), .int (nI nb), .ref (ad 6), .int (nI nt), .int (nI nf), .ref (ad 7), .int (nI na), .int (nI lv), .ref (ad 8), .int (nI nm)])), (ad 1, .inr (2, [.ref (ad 2)])), (ad 2, .inr (1, [.ref (ad 3)])), (ad 3, .inl (cL, 4160, .inr (.inl w))), (ad 4, .inl (cI, 6, .inl (fun j => nI (vw j)))), (ad 5, .inl (cI, 6, .inl (fun j => nI (vp j)))), (ad 6, .inl (cI, 50, .inl (fun j => nI (tw j)))), (ad 7, .inl (cI, 6, .inl (fun j => nI (ab j)))), (ad 8, .inl (cI, 8, .inl (fun j => nI (am j))))]) ⟨hx, hb, hml, hown, hts⟩ (c_B_termRow l D kb) ⟨callB_of 1 hts (gW wd_267) rfl rfl rfl (hts _ wd_1) (hts _ wd_265) hd_B_termRow ⟨Nat.le_of_ble_eq_true rfl, Nat.le_of_ble_eq_true rfl⟩, hts _ wd_266⟩ XT_ok (fun _ _ _ => trivial) hK hP hD hS hA [] [] [0, 1, 2, 3, 4, 5, 6, 7, 8] [0, 1, 2, 3, 4, 5, 6, 7, 8] rfl rfl rfl rfl rfl (by decide) rfl rfl rfl hl.1 rfl (Nat.le_of_ble_eq_true rfl) d_B_buildRelation_150 ⟨Nat.zero_le _, Nat.zero_le _⟩ (st1 := [.int (nI (50 + kb * 4)), .int (nI (50 + ka * 4)), .int (nI nf), .ref (ad 1)]) rfl (fun H locs hP hD hS => ?_)
  refine lv_iload hx hb d_B_buildRelation_153 (lv_at hl 0 rfl) ?_
  refine lv_iconst (v := nI 1) hx hb d_B_buildRelation_155 (by decide) ?_
  refine fn_V (ws' := (bsW ad cL cI nv nb nt nf na lv nm vw vp tw ab am (cAtMost nf (50 + ka * 4) (50 + kb * 4) (tw ka) true w))) (w1 := (circW (ad 1) (ad 2) (ad 3) cL (cAtMost nf (50 + ka * 4) (50 + kb * 4) (tw ka) true w))) (wc := (circW (ad 1) (ad 2) (ad 3) cL w)) (wr := [(ad 0, .inr (0, [.ref (ad 2), .ref (ad 1), .ref (ad 4), .ref (ad 5), .int (nI nv), .int (nI nb), .ref (ad 6), .int (nI nt), .int (nI nf), .ref (ad 7), .int (nI na), .int (nI lv), .ref (ad 8), .int (nI nm)])), (ad 4, .inl (cI, 6, .inl (fun j => nI (vw j)))), (ad 5, .inl (cI, 6, .inl (fun j => nI (vp j)))), (ad 6, .inl (cI, 50, .inl (fun j => nI (tw j)))), (ad 7, .inl (cI, 6, .inl (fun j => nI (ab j)))), (ad 8, .inl (cI, 8, .inl (fun j => nI (am j))))]) ⟨hx, hb, hml, hown, hts⟩ (c_C_atMost l D (ad 1) (ad 2) (ad 3) cL w nf (50 + ka * 4) (50 + kb * 4) (tw ka) true (by omega) (by omega) (by omega)) ⟨callB_of 5 hts (gW wd_373) rfl rfl rfl (hts _ wd_2) (hts _ wd_370) hd_C_atMost ⟨Nat.le_of_ble_eq_true rfl, Nat.le_of_ble_eq_true rfl⟩, hts _ wd_371, hts _ wd_372⟩ XT_ok (fun _ _ _ => trivial) hK hP hD hS hA 1 2 rfl rfl rfl [0] [1, 2, 3] [0, 4, 5, 6, 7, 8] [0, 6, 7, 8, 1, 2, 3, 4, 5] rfl rfl rfl rfl rfl (by decide) rfl rfl rfl hl.1 rfl (Nat.le_of_ble_eq_true rfl) d_B_buildRelation_156 ⟨Nat.zero_le _, Nat.zero_le _⟩ (st1 := []) rfl (fun H locs hP hD hS => ?_)
  refine lv_goto (tgt := 178) hx hb d_B_buildRelation_159 (by decide) ?_
  exact fn_vret hx hb hr hlocks hAe hK hP hD hS d_B_buildRelation_178
set_option maxHeartbeats 4000000 in
set_option maxRecDepth 100000 in
theorem c_B_buildRelation_5 (l : Launch) (D : va_G) (ad : Nat → Nat) (cL cI : ClassId) (nv nb nt nf na lv nm : Nat) (vw vp tw ab am : Nat → Nat) (w : Nat → Int64) (hok : Bok nv nb nt nf na lv nm vw vp tw ab am) (ka kb : Nat) (ha : ka < nt) (hb2 : kb < 4) (hnf : nf < 50) : Fn l y_B_buildRelation (wk y_B_buildRelation b_B_buildRelation 6 none) rm_B_buildRelation D cls [(cL, .long), (cI, .int)] [.ref (ad 0), .int (nI 5), .int (nI ka), .int (nI kb)] (bsW ad cL cI nv nb nt nf na lv nm vw vp tw ab am w) XT none (bsW ad cL cI nv nb nt nf na lv nm vw vp tw ab am (oCopy nf ((50 + ka * 4) + kb) 1 w)) := by
  refine Fn.of (by decide) rfl (Nat.le_of_ble_eq_true rfl) ?_
  intro p e s m below meth c A ls hx hb hml hr hts0 hown hlocks hnm hP hK hD hS hA hAe hX hl
  have hts : ∀ w ∈ lw_ok, w.before _ s = true := fun w h => hts0 w (List.mem_cons_of_mem _ h)
  have hown : s.vm.findClass R_B = some m.cls := hown
  have hP : va_P D cls (bsW ad cL cI nv nb nt nf na lv nm vw vp tw ab am w) s.heap := hP
  have hl : lv_has ls 6 [(0, .ref (ad 0)), (1, .int (nI 5)), (2, .int (nI ka)), (3, .int (nI kb))] := hl
  obtain ⟨o_nv, o_nb, o_nt, o_nf, o_na, o_lv, o_nm, o_vw, o_tw, o_am, o_ab⟩ := id hok
  have oa := o_tw ka ha
  refine lv_aload_n hx hb d_B_buildRelation_0 rfl (lv_at hl 0 rfl) ?_
  refine va_get (D := D) (ci := 0) (v := .int (nI nf)) (C := R_B) (T := F_B) (N := 14) hx hb hts in_B hown hK hP 0 rfl rfl 8 (by decide) (hts _ wd_55) (fun _ h9 => h9) rfl d_B_buildRelation_1 ?_
  refine lv_istore (lv' := [(4, .int (nI nf)), (0, .ref (ad 0)), (1, .int (nI 5)), (2, .int (nI ka)), (3, .int (nI kb))]) hx hb d_B_buildRelation_4 hl (by decide) rfl (fun ls hl => ?_)
  refine lv_aload_n hx hb d_B_buildRelation_6 rfl (lv_at hl 1 rfl) ?_
  refine va_get (D := D) (ci := 0) (v := .ref (ad 6)) (C := R_B) (T := F_B) (N := 14) hx hb hts in_B hown hK hP 0 rfl rfl 6 (by decide) (hts _ wd_53) (fun _ h9 => h9) rfl d_B_buildRelation_7 ?_
  refine lv_iload_n hx hb d_B_buildRelation_10 rfl (lv_at hl 3 rfl) ?_
  refine n_iald hx hb hK hP 6 1 rfl rfl (i := ka) (by omega) (by omega) d_B_buildRelation_11 ?_
  refine lv_istore (lv' := [(5, .int (nI (tw ka))), (4, .int (nI nf)), (0, .ref (ad 0)), (1, .int (nI 5)), (2, .int (nI ka)), (3, .int (nI kb))]) hx hb d_B_buildRelation_12 hl (by decide) rfl (fun ls hl => ?_)
  refine lv_iload_n hx hb d_B_buildRelation_14 rfl (lv_at hl 3 rfl) ?_
  refine lv_tableOut (tgt := 162) hx hb d_B_buildRelation_15 (by decide +kernel) (by decide) ?_
  refine lv_aload_n hx hb d_B_buildRelation_162 rfl (lv_at hl 2 rfl) ?_
  refine va_get (D := D) (ci := 0) (v := .ref (ad 2)) (C := R_B) (T := F_B) (N := 14) hx hb hts in_B hown hK hP 0 rfl rfl 0 (by decide) (hts _ wd_47) (fun _ h9 => h9) rfl d_B_buildRelation_163 ?_
  refine lv_iload hx hb d_B_buildRelation_166 (lv_at hl 1 rfl) ?_
  refine lv_iload_n hx hb d_B_buildRelation_168 rfl (lv_at hl 4 rfl) ?_
  refine fn_S (ws' := (bsW ad cL cI nv nb nt nf na lv nm vw vp tw ab am w)) (w1 := (nilW)) (wc := (nilW)) (wr := [(ad 0, .inr (0, [.ref (ad 2), .ref (ad 1), .ref (ad 4), .ref (ad 5), .int (nI nv), .int (nI nb), .ref (ad 6), .int (nI nt), .int (nI nf), .ref (ad 7), .int (nI na), .int (nI lv), .ref (ad 8), .int (nI nm)])), (ad 1, .inr (2, [.ref (ad 2)])), (ad 2, .inr (1, [.ref (ad 3)])), (ad 3, .inl (cL, 4160, .inr (.inl w))), (ad 4, .inl (cI, 6, .inl (fun j => nI (vw j)))), (ad 5, .inl (cI, 6, .inl (fun j => nI (vp j)))), (ad 6, .inl (cI, 50, .inl (fun j => nI (tw j)))), (ad 7, .inl (cI, 6, .inl (fun j => nI (ab j)))), (ad 8, .inl (cI, 8, .inl (fun j => nI (am j))))]) ⟨hx, hb, hml, hown, hts⟩ (c_B_termRow l D ka) ⟨callB_of 1 hts (gW wd_267) rfl rfl rfl (hts _ wd_1) (hts _ wd_265) hd_B_termRow ⟨Nat.le_of_ble_eq_true rfl, Nat.le_of_ble_eq_true rfl⟩, hts _ wd_266⟩ XT_ok (fun _ _ _ => trivial) hK hP hD hS hA [] [] [0, 1, 2, 3, 4, 5, 6, 7, 8] [0, 1, 2, 3, 4, 5, 6, 7, 8] rfl rfl rfl rfl rfl (by decide) rfl rfl rfl hl.1 rfl (Nat.le_of_ble_eq_true rfl) d_B_buildRelation_169 ⟨Nat.zero_le _, Nat.zero_le _⟩ (st1 := [.int (nI (50 + ka * 4)), .int (nI nf), .ref (ad 2)]) rfl (fun H locs hP hD hS => ?_)
  refine lv_iload_n hx hb d_B_buildRelation_172 rfl (lv_at hl 5 rfl) ?_
  refine n_add hx hb d_B_buildRelation_173 ?_
  refine lv_iconst (v := nI 1) hx hb d_B_buildRelation_174 (by decide) ?_
  refine fn_V (ws' := (bsW ad cL cI nv nb nt nf na lv nm vw vp tw ab am (oCopy nf ((50 + ka * 4) + kb) 1 w))) (w1 := (setsW (ad 2) (ad 3) cL (oCopy nf ((50 + ka * 4) + kb) 1 w))) (wc := (setsW (ad 2) (ad 3) cL w)) (wr := [(ad 0, .inr (0, [.ref (ad 2), .ref (ad 1), .ref (ad 4), .ref (ad 5), .int (nI nv), .int (nI nb), .ref (ad 6), .int (nI nt), .int (nI nf), .ref (ad 7), .int (nI na), .int (nI lv), .ref (ad 8), .int (nI nm)])), (ad 1, .inr (2, [.ref (ad 2)])), (ad 4, .inl (cI, 6, .inl (fun j => nI (vw j)))), (ad 5, .inl (cI, 6, .inl (fun j => nI (vp j)))), (ad 6, .inl (cI, 50, .inl (fun j => nI (tw j)))), (ad 7, .inl (cI, 6, .inl (fun j => nI (ab j)))), (ad 8, .inl (cI, 8, .inl (fun j => nI (am j))))]) ⟨hx, hb, hml, hown, hts⟩ (c_S_copy l D (ad 2) (ad 3) cL w nf ((50 + ka * 4) + kb) 1 (by omega) (by omega) (by omega)) ⟨callB_of 3 hts (gW wd_130) rfl rfl rfl (hts _ wd_3) (hts _ wd_127) hd_S_copy ⟨Nat.le_of_ble_eq_true rfl, Nat.le_of_ble_eq_true rfl⟩, hts _ wd_128, hts _ wd_129⟩ XT_ok (fun _ _ _ => trivial) hK hP hD hS hA 2 1 rfl rfl rfl [0] [2, 3] [0, 1, 4, 5, 6, 7, 8] [0, 1, 7, 8, 2, 3, 4, 5, 6] rfl rfl rfl rfl rfl (by decide) rfl rfl rfl hl.1 rfl (Nat.le_of_ble_eq_true rfl) d_B_buildRelation_175 ⟨Nat.zero_le _, Nat.zero_le _⟩ (st1 := []) rfl (fun H locs hP hD hS => ?_)
  exact fn_vret hx hb hr hlocks hAe hK hP hD hS d_B_buildRelation_178
set_option maxHeartbeats 4000000 in
set_option maxRecDepth 100000 in
theorem c_B_buildConnective_6 (l : Launch) (D : va_G) (ad : Nat → Nat) (cL cI : ClassId) (nv nb nt nf na lv nm : Nat) (vw vp tw ab am : Nat → Nat) (w : Nat → Int64) (hok : Bok nv nb nt nf na lv nm vw vp tw ab am) (ka : Nat) (kb : Int32) (ha : ka < nf) (hnf : nf < 50) : Fn l y_B_buildConnective (wk y_B_buildConnective b_B_buildConnective 5 none) rm_B_buildConnective D cls [(cL, .long), (cI, .int)] [.ref (ad 0), .int (nI 6), .int (nI ka), .int kb] (bsW ad cL cI nv nb nt nf na lv nm vw vp tw ab am w) XT none (bsW ad cL cI nv nb nt nf na lv nm vw vp tw ab am (oTurn nf ka 1 w)) := by
  refine Fn.of (by decide) rfl (Nat.le_of_ble_eq_true rfl) ?_
  intro p e s m below meth c A ls hx hb hml hr hts0 hown hlocks hnm hP hK hD hS hA hAe hX hl
  have hts : ∀ w ∈ lw_ok, w.before _ s = true := fun w h => hts0 w (List.mem_cons_of_mem _ h)
  have hown : s.vm.findClass R_B = some m.cls := hown
  have hP : va_P D cls (bsW ad cL cI nv nb nt nf na lv nm vw vp tw ab am w) s.heap := hP
  have hl : lv_has ls 5 [(0, .ref (ad 0)), (1, .int (nI 6)), (2, .int (nI ka)), (3, .int kb)] := hl
  obtain ⟨o_nv, o_nb, o_nt, o_nf, o_na, o_lv, o_nm, o_vw, o_tw, o_am, o_ab⟩ := id hok
  refine lv_aload_n hx hb d_B_buildConnective_0 rfl (lv_at hl 0 rfl) ?_
  refine va_get (D := D) (ci := 0) (v := .int (nI nf)) (C := R_B) (T := F_B) (N := 14) hx hb hts in_B hown hK hP 0 rfl rfl 8 (by decide) (hts _ wd_55) (fun _ h9 => h9) rfl d_B_buildConnective_1 ?_
  refine lv_istore (lv' := [(4, .int (nI nf)), (0, .ref (ad 0)), (1, .int (nI 6)), (2, .int (nI ka)), (3, .int kb)]) hx hb d_B_buildConnective_4 hl (by decide) rfl (fun ls hl => ?_)
  refine lv_iload_n hx hb d_B_buildConnective_6 rfl (lv_at hl 2 rfl) ?_
  refine lv_tableIn (tgt := 36) (off := 29) hx hb d_B_buildConnective_7 (by decide +kernel) (by decide +kernel) (by decide +kernel) (by decide) ?_
  refine lv_aload_n hx hb d_B_buildConnective_36 rfl (lv_at hl 1 rfl) ?_
  refine va_get (D := D) (ci := 0) (v := .ref (ad 2)) (C := R_B) (T := F_B) (N := 14) hx hb hts in_B hown hK hP 0 rfl rfl 0 (by decide) (hts _ wd_47) (fun _ h9 => h9) rfl d_B_buildConnective_37 ?_
  refine lv_iload hx hb d_B_buildConnective_40 (lv_at hl 0 rfl) ?_
  refine lv_iload_n hx hb d_B_buildConnective_42 rfl (lv_at hl 3 rfl) ?_
  refine lv_iconst (v := nI 1) hx hb d_B_buildConnective_43 (by decide) ?_
  refine fn_V (ws' := (bsW ad cL cI nv nb nt nf na lv nm vw vp tw ab am (oTurn nf ka 1 w))) (w1 := (setsW (ad 2) (ad 3) cL (oTurn nf ka 1 w))) (wc := (setsW (ad 2) (ad 3) cL w)) (wr := [(ad 0, .inr (0, [.ref (ad 2), .ref (ad 1), .ref (ad 4), .ref (ad 5), .int (nI nv), .int (nI nb), .ref (ad 6), .int (nI nt), .int (nI nf), .ref (ad 7), .int (nI na), .int (nI lv), .ref (ad 8), .int (nI nm)])), (ad 1, .inr (2, [.ref (ad 2)])), (ad 4, .inl (cI, 6, .inl (fun j => nI (vw j)))), (ad 5, .inl (cI, 6, .inl (fun j => nI (vp j)))), (ad 6, .inl (cI, 50, .inl (fun j => nI (tw j)))), (ad 7, .inl (cI, 6, .inl (fun j => nI (ab j)))), (ad 8, .inl (cI, 8, .inl (fun j => nI (am j))))]) ⟨hx, hb, hml, hown, hts⟩ (c_S_turn l D (ad 2) (ad 3) cL w nf ka 1 (by omega) (by omega) (by omega)) ⟨callB_of 3 hts (gW wd_310) rfl rfl rfl (hts _ wd_3) (hts _ wd_321) hd_S_turn ⟨Nat.le_of_ble_eq_true rfl, Nat.le_of_ble_eq_true rfl⟩, hts _ wd_308, hts _ wd_309⟩ XT_ok (fun _ _ _ => trivial) hK hP hD hS hA 2 1 rfl rfl rfl [0] [2, 3] [0, 1, 4, 5, 6, 7, 8] [0, 1, 7, 8, 2, 3, 4, 5, 6] rfl rfl rfl rfl rfl (by decide) rfl rfl rfl hl.1 rfl (Nat.le_of_ble_eq_true rfl) d_B_buildConnective_44 ⟨Nat.zero_le _, Nat.zero_le _⟩ (st1 := []) rfl (fun H locs hP hD hS => ?_)
  refine lv_goto (tgt := 119) hx hb d_B_buildConnective_47 (by decide) ?_
  exact fn_vret hx hb hr hlocks hAe hK hP hD hS d_B_buildConnective_119
set_option maxHeartbeats 4000000 in
set_option maxRecDepth 100000 in
theorem c_B_buildConnective_7 (l : Launch) (D : va_G) (ad : Nat → Nat) (cL cI : ClassId) (nv nb nt nf na lv nm : Nat) (vw vp tw ab am : Nat → Nat) (w : Nat → Int64) (hok : Bok nv nb nt nf na lv nm vw vp tw ab am) (ka kb : Nat) (ha : ka < nf) (hb2 : kb < nf) (hnf : nf < 50) : Fn l y_B_buildConnective (wk y_B_buildConnective b_B_buildConnective 5 none) rm_B_buildConnective D cls [(cL, .long), (cI, .int)] [.ref (ad 0), .int (nI 7), .int (nI ka), .int (nI kb)] (bsW ad cL cI nv nb nt nf na lv nm vw vp tw ab am w) XT none (bsW ad cL cI nv nb nt nf na lv nm vw vp tw ab am (oAnd nf ka kb 1 w)) := by
  refine Fn.of (by decide) rfl (Nat.le_of_ble_eq_true rfl) ?_
  intro p e s m below meth c A ls hx hb hml hr hts0 hown hlocks hnm hP hK hD hS hA hAe hX hl
  have hts : ∀ w ∈ lw_ok, w.before _ s = true := fun w h => hts0 w (List.mem_cons_of_mem _ h)
  have hown : s.vm.findClass R_B = some m.cls := hown
  have hP : va_P D cls (bsW ad cL cI nv nb nt nf na lv nm vw vp tw ab am w) s.heap := hP
  have hl : lv_has ls 5 [(0, .ref (ad 0)), (1, .int (nI 7)), (2, .int (nI ka)), (3, .int (nI kb))] := hl
  obtain ⟨o_nv, o_nb, o_nt, o_nf, o_na, o_lv, o_nm, o_vw, o_tw, o_am, o_ab⟩ := id hok
  refine lv_aload_n hx hb d_B_buildConnective_0 rfl (lv_at hl 0 rfl) ?_
  refine va_get (D := D) (ci := 0) (v := .int (nI nf)) (C := R_B) (T := F_B) (N := 14) hx hb hts in_B hown hK hP 0 rfl rfl 8 (by decide) (hts _ wd_55) (fun _ h9 => h9) rfl d_B_buildConnective_1 ?_
  refine lv_istore (lv' := [(4, .int (nI nf)), (0, .ref (ad 0)), (1, .int (nI 7)), (2, .int (nI ka)), (3, .int (nI kb))]) hx hb d_B_buildConnective_4 hl (by decide) rfl (fun ls hl => ?_)
  refine lv_iload_n hx hb d_B_buildConnective_6 rfl (lv_at hl 2 rfl) ?_
  refine lv_tableIn (tgt := 50) (off := 43) hx hb d_B_buildConnective_7 (by decide +kernel) (by decide +kernel) (by decide +kernel) (by decide) ?_
  refine lv_aload_n hx hb d_B_buildConnective_50 rfl (lv_at hl 1 rfl) ?_
  refine va_get (D := D) (ci := 0) (v := .ref (ad 2)) (C := R_B) (T := F_B) (N := 14) hx hb hts in_B hown hK hP 0 rfl rfl 0 (by decide) (hts _ wd_47) (fun _ h9 => h9) rfl d_B_buildConnective_51 ?_
  refine lv_iload hx hb d_B_buildConnective_54 (lv_at hl 0 rfl) ?_
  refine lv_iload_n hx hb d_B_buildConnective_56 rfl (lv_at hl 3 rfl) ?_
  refine lv_iload_n hx hb d_B_buildConnective_57 rfl (lv_at hl 4 rfl) ?_
  refine lv_iconst (v := nI 1) hx hb d_B_buildConnective_58 (by decide) ?_
  refine fn_V (ws' := (bsW ad cL cI nv nb nt nf na lv nm vw vp tw ab am (oAnd nf ka kb 1 w))) (w1 := (setsW (ad 2) (ad 3) cL (oAnd nf ka kb 1 w))) (wc := (setsW (ad 2) (ad 3) cL w)) (wr := [(ad 0, .inr (0, [.ref (ad 2), .ref (ad 1), .ref (ad 4), .ref (ad 5), .int (nI nv), .int (nI nb), .ref (ad 6), .int (nI nt), .int (nI nf), .ref (ad 7), .int (nI na), .int (nI lv), .ref (ad 8), .int (nI nm)])), (ad 1, .inr (2, [.ref (ad 2)])), (ad 4, .inl (cI, 6, .inl (fun j => nI (vw j)))), (ad 5, .inl (cI, 6, .inl (fun j => nI (vp j)))), (ad 6, .inl (cI, 50, .inl (fun j => nI (tw j)))), (ad 7, .inl (cI, 6, .inl (fun j => nI (ab j)))), (ad 8, .inl (cI, 8, .inl (fun j => nI (am j))))]) ⟨hx, hb, hml, hown, hts⟩ (c_S_and l D (ad 2) (ad 3) cL w nf ka kb 1 (by omega) (by omega) (by omega) (by omega) (by omega)) ⟨callB_of 4 hts (gW wd_134) rfl rfl rfl (hts _ wd_3) (hts _ wd_131) hd_S_and ⟨Nat.le_of_ble_eq_true rfl, Nat.le_of_ble_eq_true rfl⟩, hts _ wd_132, hts _ wd_133⟩ XT_ok (fun _ _ _ => trivial) hK hP hD hS hA 2 1 rfl rfl rfl [0] [2, 3] [0, 1, 4, 5, 6, 7, 8] [0, 1, 7, 8, 2, 3, 4, 5, 6] rfl rfl rfl rfl rfl (by decide) rfl rfl rfl hl.1 rfl (Nat.le_of_ble_eq_true rfl) d_B_buildConnective_59 ⟨Nat.zero_le _, Nat.zero_le _⟩ (st1 := []) rfl (fun H locs hP hD hS => ?_)
  refine lv_goto (tgt := 119) hx hb d_B_buildConnective_62 (by decide) ?_
  exact fn_vret hx hb hr hlocks hAe hK hP hD hS d_B_buildConnective_119
set_option maxHeartbeats 4000000 in
set_option maxRecDepth 100000 in
theorem c_B_buildConnective_8 (l : Launch) (D : va_G) (ad : Nat → Nat) (cL cI : ClassId) (nv nb nt nf na lv nm : Nat) (vw vp tw ab am : Nat → Nat) (w : Nat → Int64) (hok : Bok nv nb nt nf na lv nm vw vp tw ab am) (ka kb : Nat) (ha : ka < nf) (hb2 : kb < nf) (hnf : nf < 50) : Fn l y_B_buildConnective (wk y_B_buildConnective b_B_buildConnective 5 none) rm_B_buildConnective D cls [(cL, .long), (cI, .int)] [.ref (ad 0), .int (nI 8), .int (nI ka), .int (nI kb)] (bsW ad cL cI nv nb nt nf na lv nm vw vp tw ab am w) XT none (bsW ad cL cI nv nb nt nf na lv nm vw vp tw ab am (oOr nf ka kb 1 w)) := by
  refine Fn.of (by decide) rfl (Nat.le_of_ble_eq_true rfl) ?_
  intro p e s m below meth c A ls hx hb hml hr hts0 hown hlocks hnm hP hK hD hS hA hAe hX hl
  have hts : ∀ w ∈ lw_ok, w.before _ s = true := fun w h => hts0 w (List.mem_cons_of_mem _ h)
  have hown : s.vm.findClass R_B = some m.cls := hown
  have hP : va_P D cls (bsW ad cL cI nv nb nt nf na lv nm vw vp tw ab am w) s.heap := hP
  have hl : lv_has ls 5 [(0, .ref (ad 0)), (1, .int (nI 8)), (2, .int (nI ka)), (3, .int (nI kb))] := hl
  obtain ⟨o_nv, o_nb, o_nt, o_nf, o_na, o_lv, o_nm, o_vw, o_tw, o_am, o_ab⟩ := id hok
  refine lv_aload_n hx hb d_B_buildConnective_0 rfl (lv_at hl 0 rfl) ?_
  refine va_get (D := D) (ci := 0) (v := .int (nI nf)) (C := R_B) (T := F_B) (N := 14) hx hb hts in_B hown hK hP 0 rfl rfl 8 (by decide) (hts _ wd_55) (fun _ h9 => h9) rfl d_B_buildConnective_1 ?_
  refine lv_istore (lv' := [(4, .int (nI nf)), (0, .ref (ad 0)), (1, .int (nI 8)), (2, .int (nI ka)), (3, .int (nI kb))]) hx hb d_B_buildConnective_4 hl (by decide) rfl (fun ls hl => ?_)
  refine lv_iload_n hx hb d_B_buildConnective_6 rfl (lv_at hl 2 rfl) ?_
  refine lv_tableIn (tgt := 65) (off := 58) hx hb d_B_buildConnective_7 (by decide +kernel) (by decide +kernel) (by decide +kernel) (by decide) ?_
  refine lv_aload_n hx hb d_B_buildConnective_65 rfl (lv_at hl 1 rfl) ?_
  refine va_get (D := D) (ci := 0) (v := .ref (ad 2)) (C := R_B) (T := F_B) (N := 14) hx hb hts in_B hown hK hP 0 rfl rfl 0 (by decide) (hts _ wd_47) (fun _ h9 => h9) rfl d_B_buildConnective_66 ?_
  refine lv_iload hx hb d_B_buildConnective_69 (lv_at hl 0 rfl) ?_
  refine lv_iload_n hx hb d_B_buildConnective_71 rfl (lv_at hl 3 rfl) ?_
  refine lv_iload_n hx hb d_B_buildConnective_72 rfl (lv_at hl 4 rfl) ?_
  refine lv_iconst (v := nI 1) hx hb d_B_buildConnective_73 (by decide) ?_
  refine fn_V (ws' := (bsW ad cL cI nv nb nt nf na lv nm vw vp tw ab am (oOr nf ka kb 1 w))) (w1 := (setsW (ad 2) (ad 3) cL (oOr nf ka kb 1 w))) (wc := (setsW (ad 2) (ad 3) cL w)) (wr := [(ad 0, .inr (0, [.ref (ad 2), .ref (ad 1), .ref (ad 4), .ref (ad 5), .int (nI nv), .int (nI nb), .ref (ad 6), .int (nI nt), .int (nI nf), .ref (ad 7), .int (nI na), .int (nI lv), .ref (ad 8), .int (nI nm)])), (ad 1, .inr (2, [.ref (ad 2)])), (ad 4, .inl (cI, 6, .inl (fun j => nI (vw j)))), (ad 5, .inl (cI, 6, .inl (fun j => nI (vp j)))), (ad 6, .inl (cI, 50, .inl (fun j => nI (tw j)))), (ad 7, .inl (cI, 6, .inl (fun j => nI (ab j)))), (ad 8, .inl (cI, 8, .inl (fun j => nI (am j))))]) ⟨hx, hb, hml, hown, hts⟩ (c_S_or l D (ad 2) (ad 3) cL w nf ka kb 1 (by omega) (by omega) (by omega) (by omega) (by omega)) ⟨callB_of 4 hts (gW wd_302) rfl rfl rfl (hts _ wd_3) (hts _ wd_319) hd_S_or ⟨Nat.le_of_ble_eq_true rfl, Nat.le_of_ble_eq_true rfl⟩, hts _ wd_300, hts _ wd_301⟩ XT_ok (fun _ _ _ => trivial) hK hP hD hS hA 2 1 rfl rfl rfl [0] [2, 3] [0, 1, 4, 5, 6, 7, 8] [0, 1, 7, 8, 2, 3, 4, 5, 6] rfl rfl rfl rfl rfl (by decide) rfl rfl rfl hl.1 rfl (Nat.le_of_ble_eq_true rfl) d_B_buildConnective_74 ⟨Nat.zero_le _, Nat.zero_le _⟩ (st1 := []) rfl (fun H locs hP hD hS => ?_)
  refine lv_goto (tgt := 119) hx hb d_B_buildConnective_77 (by decide) ?_
  exact fn_vret hx hb hr hlocks hAe hK hP hD hS d_B_buildConnective_119
set_option maxHeartbeats 4000000 in
set_option maxRecDepth 100000 in
theorem c_B_buildConnective_9 (l : Launch) (D : va_G) (ad : Nat → Nat) (cL cI : ClassId) (nv nb nt nf na lv nm : Nat) (vw vp tw ab am : Nat → Nat) (w : Nat → Int64) (hok : Bok nv nb nt nf na lv nm vw vp tw ab am) (ka kb : Nat) (ha : ka < nf) (hb2 : kb < nf) (hnf : nf < 50) : Fn l y_B_buildConnective (wk y_B_buildConnective b_B_buildConnective 5 none) rm_B_buildConnective D cls [(cL, .long), (cI, .int)] [.ref (ad 0), .int (nI 9), .int (nI ka), .int (nI kb)] (bsW ad cL cI nv nb nt nf na lv nm vw vp tw ab am w) XT none (bsW ad cL cI nv nb nt nf na lv nm vw vp tw ab am (oXor nf ka kb 1 w)) := by
  refine Fn.of (by decide) rfl (Nat.le_of_ble_eq_true rfl) ?_
  intro p e s m below meth c A ls hx hb hml hr hts0 hown hlocks hnm hP hK hD hS hA hAe hX hl
  have hts : ∀ w ∈ lw_ok, w.before _ s = true := fun w h => hts0 w (List.mem_cons_of_mem _ h)
  have hown : s.vm.findClass R_B = some m.cls := hown
  have hP : va_P D cls (bsW ad cL cI nv nb nt nf na lv nm vw vp tw ab am w) s.heap := hP
  have hl : lv_has ls 5 [(0, .ref (ad 0)), (1, .int (nI 9)), (2, .int (nI ka)), (3, .int (nI kb))] := hl
  obtain ⟨o_nv, o_nb, o_nt, o_nf, o_na, o_lv, o_nm, o_vw, o_tw, o_am, o_ab⟩ := id hok
  refine lv_aload_n hx hb d_B_buildConnective_0 rfl (lv_at hl 0 rfl) ?_
  refine va_get (D := D) (ci := 0) (v := .int (nI nf)) (C := R_B) (T := F_B) (N := 14) hx hb hts in_B hown hK hP 0 rfl rfl 8 (by decide) (hts _ wd_55) (fun _ h9 => h9) rfl d_B_buildConnective_1 ?_
  refine lv_istore (lv' := [(4, .int (nI nf)), (0, .ref (ad 0)), (1, .int (nI 9)), (2, .int (nI ka)), (3, .int (nI kb))]) hx hb d_B_buildConnective_4 hl (by decide) rfl (fun ls hl => ?_)
  refine lv_iload_n hx hb d_B_buildConnective_6 rfl (lv_at hl 2 rfl) ?_
  refine lv_tableIn (tgt := 80) (off := 73) hx hb d_B_buildConnective_7 (by decide +kernel) (by decide +kernel) (by decide +kernel) (by decide) ?_
  refine lv_aload_n hx hb d_B_buildConnective_80 rfl (lv_at hl 1 rfl) ?_
  refine va_get (D := D) (ci := 0) (v := .ref (ad 2)) (C := R_B) (T := F_B) (N := 14) hx hb hts in_B hown hK hP 0 rfl rfl 0 (by decide) (hts _ wd_47) (fun _ h9 => h9) rfl d_B_buildConnective_81 ?_
  refine lv_iload hx hb d_B_buildConnective_84 (lv_at hl 0 rfl) ?_
  refine lv_iload_n hx hb d_B_buildConnective_86 rfl (lv_at hl 3 rfl) ?_
  refine lv_iload_n hx hb d_B_buildConnective_87 rfl (lv_at hl 4 rfl) ?_
  refine lv_iconst (v := nI 1) hx hb d_B_buildConnective_88 (by decide) ?_
  refine fn_V (ws' := (bsW ad cL cI nv nb nt nf na lv nm vw vp tw ab am (oXor nf ka kb 1 w))) (w1 := (setsW (ad 2) (ad 3) cL (oXor nf ka kb 1 w))) (wc := (setsW (ad 2) (ad 3) cL w)) (wr := [(ad 0, .inr (0, [.ref (ad 2), .ref (ad 1), .ref (ad 4), .ref (ad 5), .int (nI nv), .int (nI nb), .ref (ad 6), .int (nI nt), .int (nI nf), .ref (ad 7), .int (nI na), .int (nI lv), .ref (ad 8), .int (nI nm)])), (ad 1, .inr (2, [.ref (ad 2)])), (ad 4, .inl (cI, 6, .inl (fun j => nI (vw j)))), (ad 5, .inl (cI, 6, .inl (fun j => nI (vp j)))), (ad 6, .inl (cI, 50, .inl (fun j => nI (tw j)))), (ad 7, .inl (cI, 6, .inl (fun j => nI (ab j)))), (ad 8, .inl (cI, 8, .inl (fun j => nI (am j))))]) ⟨hx, hb, hml, hown, hts⟩ (c_S_exclusive l D (ad 2) (ad 3) cL w nf ka kb 1 (by omega) (by omega) (by omega) (by omega) (by omega)) ⟨callB_of 4 hts (gW wd_297) rfl rfl rfl (hts _ wd_3) (hts _ wd_320) hd_S_exclusive ⟨Nat.le_of_ble_eq_true rfl, Nat.le_of_ble_eq_true rfl⟩, hts _ wd_295, hts _ wd_296⟩ XT_ok (fun _ _ _ => trivial) hK hP hD hS hA 2 1 rfl rfl rfl [0] [2, 3] [0, 1, 4, 5, 6, 7, 8] [0, 1, 7, 8, 2, 3, 4, 5, 6] rfl rfl rfl rfl rfl (by decide) rfl rfl rfl hl.1 rfl (Nat.le_of_ble_eq_true rfl) d_B_buildConnective_89 ⟨Nat.zero_le _, Nat.zero_le _⟩ (st1 := []) rfl (fun H locs hP hD hS => ?_)
  refine lv_goto (tgt := 119) hx hb d_B_buildConnective_92 (by decide) ?_
  exact fn_vret hx hb hr hlocks hAe hK hP hD hS d_B_buildConnective_119
set_option maxHeartbeats 4000000 in
set_option maxRecDepth 100000 in
theorem c_B_buildConnective_10 (l : Launch) (D : va_G) (ad : Nat → Nat) (cL cI : ClassId) (nv nb nt nf na lv nm : Nat) (vw vp tw ab am : Nat → Nat) (w : Nat → Int64) (hok : Bok nv nb nt nf na lv nm vw vp tw ab am) (ka kb : Nat) (ha : ka < nf) (hb2 : kb < nf) (hnf : nf < 50) : Fn l y_B_buildConnective (wk y_B_buildConnective b_B_buildConnective 5 none) rm_B_buildConnective D cls [(cL, .long), (cI, .int)] [.ref (ad 0), .int (nI 10), .int (nI ka), .int (nI kb)] (bsW ad cL cI nv nb nt nf na lv nm vw vp tw ab am w) XT none (bsW ad cL cI nv nb nt nf na lv nm vw vp tw ab am (oOr nf nf kb 1 (oTurn nf ka 1 w))) := by
  refine Fn.of (by decide) rfl (Nat.le_of_ble_eq_true rfl) ?_
  intro p e s m below meth c A ls hx hb hml hr hts0 hown hlocks hnm hP hK hD hS hA hAe hX hl
  have hts : ∀ w ∈ lw_ok, w.before _ s = true := fun w h => hts0 w (List.mem_cons_of_mem _ h)
  have hown : s.vm.findClass R_B = some m.cls := hown
  have hP : va_P D cls (bsW ad cL cI nv nb nt nf na lv nm vw vp tw ab am w) s.heap := hP
  have hl : lv_has ls 5 [(0, .ref (ad 0)), (1, .int (nI 10)), (2, .int (nI ka)), (3, .int (nI kb))] := hl
  obtain ⟨o_nv, o_nb, o_nt, o_nf, o_na, o_lv, o_nm, o_vw, o_tw, o_am, o_ab⟩ := id hok
  refine lv_aload_n hx hb d_B_buildConnective_0 rfl (lv_at hl 0 rfl) ?_
  refine va_get (D := D) (ci := 0) (v := .int (nI nf)) (C := R_B) (T := F_B) (N := 14) hx hb hts in_B hown hK hP 0 rfl rfl 8 (by decide) (hts _ wd_55) (fun _ h9 => h9) rfl d_B_buildConnective_1 ?_
  refine lv_istore (lv' := [(4, .int (nI nf)), (0, .ref (ad 0)), (1, .int (nI 10)), (2, .int (nI ka)), (3, .int (nI kb))]) hx hb d_B_buildConnective_4 hl (by decide) rfl (fun ls hl => ?_)
  refine lv_iload_n hx hb d_B_buildConnective_6 rfl (lv_at hl 2 rfl) ?_
  refine lv_tableOut (tgt := 95) hx hb d_B_buildConnective_7 (by decide +kernel) (by decide) ?_
  refine lv_aload_n hx hb d_B_buildConnective_95 rfl (lv_at hl 1 rfl) ?_
  refine va_get (D := D) (ci := 0) (v := .ref (ad 2)) (C := R_B) (T := F_B) (N := 14) hx hb hts in_B hown hK hP 0 rfl rfl 0 (by decide) (hts _ wd_47) (fun _ h9 => h9) rfl d_B_buildConnective_96 ?_
  refine lv_iload hx hb d_B_buildConnective_99 (lv_at hl 0 rfl) ?_
  refine lv_iload_n hx hb d_B_buildConnective_101 rfl (lv_at hl 3 rfl) ?_
  refine lv_iconst (v := nI 1) hx hb d_B_buildConnective_102 (by decide) ?_
  refine fn_V (ws' := (bsW ad cL cI nv nb nt nf na lv nm vw vp tw ab am (oTurn nf ka 1 w))) (w1 := (setsW (ad 2) (ad 3) cL (oTurn nf ka 1 w))) (wc := (setsW (ad 2) (ad 3) cL w)) (wr := [(ad 0, .inr (0, [.ref (ad 2), .ref (ad 1), .ref (ad 4), .ref (ad 5), .int (nI nv), .int (nI nb), .ref (ad 6), .int (nI nt), .int (nI nf), .ref (ad 7), .int (nI na), .int (nI lv), .ref (ad 8), .int (nI nm)])), (ad 1, .inr (2, [.ref (ad 2)])), (ad 4, .inl (cI, 6, .inl (fun j => nI (vw j)))), (ad 5, .inl (cI, 6, .inl (fun j => nI (vp j)))), (ad 6, .inl (cI, 50, .inl (fun j => nI (tw j)))), (ad 7, .inl (cI, 6, .inl (fun j => nI (ab j)))), (ad 8, .inl (cI, 8, .inl (fun j => nI (am j))))]) ⟨hx, hb, hml, hown, hts⟩ (c_S_turn l D (ad 2) (ad 3) cL w nf ka 1 (by omega) (by omega) (by omega)) ⟨callB_of 3 hts (gW wd_310) rfl rfl rfl (hts _ wd_3) (hts _ wd_321) hd_S_turn ⟨Nat.le_of_ble_eq_true rfl, Nat.le_of_ble_eq_true rfl⟩, hts _ wd_308, hts _ wd_309⟩ XT_ok (fun _ _ _ => trivial) hK hP hD hS hA 2 1 rfl rfl rfl [0] [2, 3] [0, 1, 4, 5, 6, 7, 8] [0, 1, 7, 8, 2, 3, 4, 5, 6] rfl rfl rfl rfl rfl (by decide) rfl rfl rfl hl.1 rfl (Nat.le_of_ble_eq_true rfl) d_B_buildConnective_103 ⟨Nat.zero_le _, Nat.zero_le _⟩ (st1 := []) rfl (fun H locs hP hD hS => ?_)
  refine lv_aload_n hx hb d_B_buildConnective_106 rfl (lv_at hl 1 rfl) ?_
  refine va_get (D := D) (ci := 0) (v := .ref (ad 2)) (C := R_B) (T := F_B) (N := 14) hx hb hts in_B hown hK hP 0 rfl rfl 0 (by decide) (hts _ wd_47) (fun _ h9 => h9) rfl d_B_buildConnective_107 ?_
  refine lv_iload hx hb d_B_buildConnective_110 (lv_at hl 0 rfl) ?_
  refine lv_iload hx hb d_B_buildConnective_112 (lv_at hl 0 rfl) ?_
  refine lv_iload_n hx hb d_B_buildConnective_114 rfl (lv_at hl 4 rfl) ?_
  refine lv_iconst (v := nI 1) hx hb d_B_buildConnective_115 (by decide) ?_
  refine fn_V (ws' := (bsW ad cL cI nv nb nt nf na lv nm vw vp tw ab am (oOr nf nf kb 1 (oTurn nf ka 1 w)))) (w1 := (setsW (ad 2) (ad 3) cL (oOr nf nf kb 1 (oTurn nf ka 1 w)))) (wc := (setsW (ad 2) (ad 3) cL (oTurn nf ka 1 w))) (wr := [(ad 0, .inr (0, [.ref (ad 2), .ref (ad 1), .ref (ad 4), .ref (ad 5), .int (nI nv), .int (nI nb), .ref (ad 6), .int (nI nt), .int (nI nf), .ref (ad 7), .int (nI na), .int (nI lv), .ref (ad 8), .int (nI nm)])), (ad 1, .inr (2, [.ref (ad 2)])), (ad 4, .inl (cI, 6, .inl (fun j => nI (vw j)))), (ad 5, .inl (cI, 6, .inl (fun j => nI (vp j)))), (ad 6, .inl (cI, 50, .inl (fun j => nI (tw j)))), (ad 7, .inl (cI, 6, .inl (fun j => nI (ab j)))), (ad 8, .inl (cI, 8, .inl (fun j => nI (am j))))]) ⟨hx, hb, hml, hown, hts⟩ (c_S_or l D (ad 2) (ad 3) cL (oTurn nf ka 1 w) nf nf kb 1 (by omega) (by omega) (by omega) (by omega) (by omega)) ⟨callB_of 4 hts (gW wd_302) rfl rfl rfl (hts _ wd_3) (hts _ wd_319) hd_S_or ⟨Nat.le_of_ble_eq_true rfl, Nat.le_of_ble_eq_true rfl⟩, hts _ wd_300, hts _ wd_301⟩ XT_ok (fun _ _ _ => trivial) hK hP hD hS hA 2 1 rfl rfl rfl [0] [2, 3] [0, 1, 4, 5, 6, 7, 8] [0, 1, 7, 8, 2, 3, 4, 5, 6] rfl rfl rfl rfl rfl (by decide) rfl rfl rfl hl.1 rfl (Nat.le_of_ble_eq_true rfl) d_B_buildConnective_116 ⟨Nat.zero_le _, Nat.zero_le _⟩ (st1 := []) rfl (fun H locs hP hD hS => ?_)
  exact fn_vret hx hb hr hlocks hAe hK hP hD hS d_B_buildConnective_119
