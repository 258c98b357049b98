theorem jw_f {n : Nat} (h : wdB (nI n) = false) (hn : n < 2 ^ 31) : ¬ (1 ≤ n ∧ n ≤ 4) := by
  rw [wdB_I hn] at h
  exact of_decide_eq_false h
theorem jw_t {n : Nat} (h : wdB (nI n) = true) (hn : n < 2 ^ 31) : 1 ≤ n ∧ n ≤ 4 := by
  rw [wdB_I hn] at h
  exact of_decide_eq_true h
theorem n_dec (k : Nat) : nI k + Int32.ofInt (-1) = nI k - nI 1 := by
  rw [Int32.sub_eq_add_neg]
  rfl
set_option maxHeartbeats 4000000 in
set_option maxRecDepth 100000 in
theorem c_B_isWidth (l : Launch) (D : va_G) (x : Int32) : Fn l y_B_isWidth (wk y_B_isWidth b_B_isWidth 1 (some .boolean)) rm_B_isWidth D cls [] [.int x] (nilW) XT (some (.int (bI (wdB x)))) (nilW) := by
  refine Fn.of (by decide) rfl (Nat.le_of_ble_eq_true rfl) ?_
  intro p e s m below meth c A ls hx hb hml hr hts0 hown hlocks hnm hP hK hD hS hA hAe hX hl
  have hts : ∀ w ∈ lw_ok, w.before _ s = true := fun w h => hts0 w (List.mem_cons_of_mem _ h)
  have hown : s.vm.findClass R_B = some m.cls := hown
  have hP : va_P D cls (nilW) s.heap := hP
  have hl : lv_has ls 1 [(0, .int x)] := hl
  refine lv_iload_n hx hb d_B_isWidth_0 rfl (lv_at hl 0 rfl) ?_
  refine lv_iconst (v := nI 1) hx hb d_B_isWidth_1 (by decide) ?_
  refine z_icmp_lt (tgt := 14) hx hb rfl (nI_toInt (by omega)) d_B_isWidth_2 (by decide) (fun c_2 => ?_) (fun c_2 => ?_)
  · refine lv_iconst (v := nI 0) hx hb d_B_isWidth_14 (by decide) ?_
    exact fn_zret hx hb hr hlocks hAe hK hP hD hS (by rw [show wdB x = false from decide_eq_false (by omega)]; rfl) d_B_isWidth_15
  · refine lv_iload_n hx hb d_B_isWidth_5 rfl (lv_at hl 0 rfl) ?_
    refine lv_iconst (v := nI 4) hx hb d_B_isWidth_6 (by decide) ?_
    refine z_icmp_gt (tgt := 14) hx hb rfl (nI_toInt (by omega)) d_B_isWidth_7 (by decide) (fun c_7 => ?_) (fun c_7 => ?_)
    · refine lv_iconst (v := nI 0) hx hb d_B_isWidth_14 (by decide) ?_
      exact fn_zret hx hb hr hlocks hAe hK hP hD hS (by rw [show wdB x = false from decide_eq_false (by omega)]; rfl) d_B_isWidth_15
    · refine lv_iconst (v := nI 1) hx hb d_B_isWidth_10 (by decide) ?_
      refine lv_goto (tgt := 15) hx hb d_B_isWidth_11 (by decide) ?_
      exact fn_zret hx hb hr hlocks hAe hK hP hD hS (by rw [show wdB x = true from decide_eq_true ⟨by omega, by omega⟩]; rfl) d_B_isWidth_15
set_option maxHeartbeats 4000000 in
set_option maxRecDepth 100000 in
theorem c_B_termRow (l : Launch) (D : va_G) (t : Nat) : Fn l y_B_termRow (wk y_B_termRow b_B_termRow 1 (some .int)) rm_B_termRow D cls [] [.int (nI t)] (nilW) XT (some (.int (nI (50 + t * 4)))) (nilW) := by
  refine Fn.of (by decide) rfl (Nat.le_of_ble_eq_true rfl) ?_
  intro p e s m below meth c A ls hx hb hml hr hts0 hown hlocks hnm hP hK hD hS hA hAe hX hl
  have hts : ∀ w ∈ lw_ok, w.before _ s = true := fun w h => hts0 w (List.mem_cons_of_mem _ h)
  have hown : s.vm.findClass R_B = some m.cls := hown
  have hP : va_P D cls (nilW) s.heap := hP
  have hl : lv_has ls 1 [(0, .int (nI t))] := hl
  refine lv_bipush (v := nI 50) hx hb d_B_termRow_0 (by decide) ?_
  refine lv_iload_n hx hb d_B_termRow_2 rfl (lv_at hl 0 rfl) ?_
  refine lv_iconst (v := nI 4) hx hb d_B_termRow_3 (by decide) ?_
  refine n_mul hx hb d_B_termRow_4 ?_
  refine n_add hx hb d_B_termRow_5 ?_
  exact fn_iret hx hb hr hlocks hAe hK hP hD hS rfl d_B_termRow_6
set_option maxHeartbeats 4000000 in
set_option maxRecDepth 100000 in
theorem c_B_hasVariable (l : Launch) (D : va_G) (ad : Nat → Nat) (cL cI : ClassId) (nv nb nt nf na lv nm : Nat) (vw vp tw ab am : Nat → Nat) (w : Nat → Int64) (hok : Bok nv nb nt nf na lv nm vw vp tw ab am) (x : Int32) : Fn l y_B_hasVariable (wk y_B_hasVariable b_B_hasVariable 2 (some .boolean)) rm_B_hasVariable D cls [(cL, .long), (cI, .int)] [.ref (ad 0), .int x] (bsW ad cL cI nv nb nt nf na lv nm vw vp tw ab am w) XT (some (.int (bI (hasB x nv)))) (bsW ad cL cI nv nb nt nf na lv nm vw vp tw ab am w) := by
  refine Fn.of (by decide) rfl (Nat.le_of_ble_eq_true rfl) ?_
  intro p e s m below meth c A ls hx hb hml hr hts0 hown hlocks hnm hP hK hD hS hA hAe hX hl
  have hts : ∀ w ∈ lw_ok, w.before _ s = true := fun w h => hts0 w (List.mem_cons_of_mem _ h)
  have hown : s.vm.findClass R_B = some m.cls := hown
  have hP : va_P D cls (bsW ad cL cI nv nb nt nf na lv nm vw vp tw ab am w) s.heap := hP
  have hl : lv_has ls 2 [(0, .ref (ad 0)), (1, .int x)] := hl
  obtain ⟨o_nv, o_nb, o_nt, o_nf, o_na, o_lv, o_nm, o_vw, o_tw, o_am, o_ab⟩ := id hok
  refine lv_iload_n hx hb d_B_hasVariable_0 rfl (lv_at hl 1 rfl) ?_
  refine z_if_lt (tgt := 16) hx hb rfl d_B_hasVariable_1 (by decide) (fun c_1 => ?_) (fun c_1 => ?_)
  · refine lv_iconst (v := nI 0) hx hb d_B_hasVariable_16 (by decide) ?_
    exact fn_zret hx hb hr hlocks hAe hK hP hD hS (by rw [hasB_f (x := x) (n := nv) (by omega)]; rfl) d_B_hasVariable_17
  · refine lv_iload_n hx hb d_B_hasVariable_4 rfl (lv_at hl 1 rfl) ?_
    refine lv_aload_n hx hb d_B_hasVariable_5 rfl (lv_at hl 0 rfl) ?_
    refine va_get (D := D) (ci := 0) (v := .int (nI nv)) (C := R_B) (T := F_B) (N := 14) hx hb hts in_B hown hK hP 0 rfl rfl 4 (by decide) (hts _ wd_51) (fun _ h9 => h9) rfl d_B_hasVariable_6 ?_
    refine z_icmp_ge (tgt := 16) hx hb rfl (nI_toInt (by omega)) d_B_hasVariable_9 (by decide) (fun c_9 => ?_) (fun c_9 => ?_)
    · refine lv_iconst (v := nI 0) hx hb d_B_hasVariable_16 (by decide) ?_
      exact fn_zret hx hb hr hlocks hAe hK hP hD hS (by rw [hasB_f (x := x) (n := nv) (by omega)]; rfl) d_B_hasVariable_17
    · refine lv_iconst (v := nI 1) hx hb d_B_hasVariable_12 (by decide) ?_
      refine lv_goto (tgt := 17) hx hb d_B_hasVariable_13 (by decide) ?_
      exact fn_zret hx hb hr hlocks hAe hK hP hD hS (by rw [hasB_t (x := x) (n := nv) (by omega) (by omega)]; rfl) d_B_hasVariable_17
set_option maxHeartbeats 4000000 in
set_option maxRecDepth 100000 in
theorem c_B_hasTerm (l : Launch) (D : va_G) (ad : Nat → Nat) (cL cI : ClassId) (nv nb nt nf na lv nm : Nat) (vw vp tw ab am : Nat → Nat) (w : Nat → Int64) (hok : Bok nv nb nt nf na lv nm vw vp tw ab am) (x : Int32) : Fn l y_B_hasTerm (wk y_B_hasTerm b_B_hasTerm 2 (some .boolean)) rm_B_hasTerm D cls [(cL, .long), (cI, .int)] [.ref (ad 0), .int x] (bsW ad cL cI nv nb nt nf na lv nm vw vp tw ab am w) XT (some (.int (bI (hasB x nt)))) (bsW ad cL cI nv nb nt nf na lv nm vw vp tw ab am w) := by
  refine Fn.of (by decide) rfl (Nat.le_of_ble_eq_true rfl) ?_
  intro p e s m below meth c A ls hx hb hml hr hts0 hown hlocks hnm hP hK hD hS hA hAe hX hl
  have hts : ∀ w ∈ lw_ok, w.before _ s = true := fun w h => hts0 w (List.mem_cons_of_mem _ h)
  have hown : s.vm.findClass R_B = some m.cls := hown
  have hP : va_P D cls (bsW ad cL cI nv nb nt nf na lv nm vw vp tw ab am w) s.heap := hP
  have hl : lv_has ls 2 [(0, .ref (ad 0)), (1, .int x)] := hl
  obtain ⟨o_nv, o_nb, o_nt, o_nf, o_na, o_lv, o_nm, o_vw, o_tw, o_am, o_ab⟩ := id hok
  refine lv_iload_n hx hb d_B_hasTerm_0 rfl (lv_at hl 1 rfl) ?_
  refine z_if_lt (tgt := 16) hx hb rfl d_B_hasTerm_1 (by decide) (fun c_1 => ?_) (fun c_1 => ?_)
  · refine lv_iconst (v := nI 0) hx hb d_B_hasTerm_16 (by decide) ?_
    exact fn_zret hx hb hr hlocks hAe hK hP hD hS (by rw [hasB_f (x := x) (n := nt) (by omega)]; rfl) d_B_hasTerm_17
  · refine lv_iload_n hx hb d_B_hasTerm_4 rfl (lv_at hl 1 rfl) ?_
    refine lv_aload_n hx hb d_B_hasTerm_5 rfl (lv_at hl 0 rfl) ?_
    refine va_get (D := D) (ci := 0) (v := .int (nI nt)) (C := R_B) (T := F_B) (N := 14) hx hb hts in_B hown hK hP 0 rfl rfl 7 (by decide) (hts _ wd_54) (fun _ h9 => h9) rfl d_B_hasTerm_6 ?_
    refine z_icmp_ge (tgt := 16) hx hb rfl (nI_toInt (by omega)) d_B_hasTerm_9 (by decide) (fun c_9 => ?_) (fun c_9 => ?_)
    · refine lv_iconst (v := nI 0) hx hb d_B_hasTerm_16 (by decide) ?_
      exact fn_zret hx hb hr hlocks hAe hK hP hD hS (by rw [hasB_f (x := x) (n := nt) (by omega)]; rfl) d_B_hasTerm_17
    · refine lv_iconst (v := nI 1) hx hb d_B_hasTerm_12 (by decide) ?_
      refine lv_goto (tgt := 17) hx hb d_B_hasTerm_13 (by decide) ?_
      exact fn_zret hx hb hr hlocks hAe hK hP hD hS (by rw [hasB_t (x := x) (n := nt) (by omega) (by omega)]; rfl) d_B_hasTerm_17
set_option maxHeartbeats 4000000 in
set_option maxRecDepth 100000 in
theorem c_B_hasFormula (l : Launch) (D : va_G) (ad : Nat → Nat) (cL cI : ClassId) (nv nb nt nf na lv nm : Nat) (vw vp tw ab am : Nat → Nat) (w : Nat → Int64) (hok : Bok nv nb nt nf na lv nm vw vp tw ab am) (x : Int32) : Fn l y_B_hasFormula (wk y_B_hasFormula b_B_hasFormula 2 (some .boolean)) rm_B_hasFormula D cls [(cL, .long), (cI, .int)] [.ref (ad 0), .int x] (bsW ad cL cI nv nb nt nf na lv nm vw vp tw ab am w) XT (some (.int (bI (hasB x nf)))) (bsW ad cL cI nv nb nt nf na lv nm vw vp tw ab am w) := by
  refine Fn.of (by decide) rfl (Nat.le_of_ble_eq_true rfl) ?_
  intro p e s m below meth c A ls hx hb hml hr hts0 hown hlocks hnm hP hK hD hS hA hAe hX hl
  have hts : ∀ w ∈ lw_ok, w.before _ s = true := fun w h => hts0 w (List.mem_cons_of_mem _ h)
  have hown : s.vm.findClass R_B = some m.cls := hown
  have hP : va_P D cls (bsW ad cL cI nv nb nt nf na lv nm vw vp tw ab am w) s.heap := hP
  have hl : lv_has ls 2 [(0, .ref (ad 0)), (1, .int x)] := hl
  obtain ⟨o_nv, o_nb, o_nt, o_nf, o_na, o_lv, o_nm, o_vw, o_tw, o_am, o_ab⟩ := id hok
  refine lv_iload_n hx hb d_B_hasFormula_0 rfl (lv_at hl 1 rfl) ?_
  refine z_if_lt (tgt := 16) hx hb rfl d_B_hasFormula_1 (by decide) (fun c_1 => ?_) (fun c_1 => ?_)
  · refine lv_iconst (v := nI 0) hx hb d_B_hasFormula_16 (by decide) ?_
    exact fn_zret hx hb hr hlocks hAe hK hP hD hS (by rw [hasB_f (x := x) (n := nf) (by omega)]; rfl) d_B_hasFormula_17
  · refine lv_iload_n hx hb d_B_hasFormula_4 rfl (lv_at hl 1 rfl) ?_
    refine lv_aload_n hx hb d_B_hasFormula_5 rfl (lv_at hl 0 rfl) ?_
    refine va_get (D := D) (ci := 0) (v := .int (nI nf)) (C := R_B) (T := F_B) (N := 14) hx hb hts in_B hown hK hP 0 rfl rfl 8 (by decide) (hts _ wd_55) (fun _ h9 => h9) rfl d_B_hasFormula_6 ?_
    refine z_icmp_ge (tgt := 16) hx hb rfl (nI_toInt (by omega)) d_B_hasFormula_9 (by decide) (fun c_9 => ?_) (fun c_9 => ?_)
    · refine lv_iconst (v := nI 0) hx hb d_B_hasFormula_16 (by decide) ?_
      exact fn_zret hx hb hr hlocks hAe hK hP hD hS (by rw [hasB_f (x := x) (n := nf) (by omega)]; rfl) d_B_hasFormula_17
    · refine lv_iconst (v := nI 1) hx hb d_B_hasFormula_12 (by decide) ?_
      refine lv_goto (tgt := 17) hx hb d_B_hasFormula_13 (by decide) ?_
      exact fn_zret hx hb hr hlocks hAe hK hP hD hS (by rw [hasB_t (x := x) (n := nf) (by omega) (by omega)]; rfl) d_B_hasFormula_17
set_option maxHeartbeats 4000000 in
set_option maxRecDepth 100000 in
theorem c_B_modelRow (l : Launch) (D : va_G) (ad : Nat → Nat) (cL cI : ClassId) (nv nb nt nf na lv nm : Nat) (vw vp tw ab am : Nat → Nat) (w : Nat → Int64) (hok : Bok nv nb nt nf na lv nm vw vp tw ab am)  : Fn l y_B_modelRow (wk y_B_modelRow b_B_modelRow 1 (some .int)) rm_B_modelRow D cls [(cL, .long), (cI, .int)] [.ref (ad 0)] (bsW ad cL cI nv nb nt nf na lv nm vw vp tw ab am w) XT (some (.int (nI (250 + lv)))) (bsW ad cL cI nv nb nt nf na lv nm vw vp tw ab am w) := by
  refine Fn.of (by decide) rfl (Nat.le_of_ble_eq_true rfl) ?_
  intro p e s m below meth c A ls hx hb hml hr hts0 hown hlocks hnm hP hK hD hS hA hAe hX hl
  have hts : ∀ w ∈ lw_ok, w.before _ s = true := fun w h => hts0 w (List.mem_cons_of_mem _ h)
  have hown : s.vm.findClass R_B = some m.cls := hown
  have hP : va_P D cls (bsW ad cL cI nv nb nt nf na lv nm vw vp tw ab am w) s.heap := hP
  have hl : lv_has ls 1 [(0, .ref (ad 0))] := hl
  obtain ⟨o_nv, o_nb, o_nt, o_nf, o_na, o_lv, o_nm, o_vw, o_tw, o_am, o_ab⟩ := id hok
  refine lv_sipush (v := nI 250) hx hb d_B_modelRow_0 (by decide) ?_
  refine lv_aload_n hx hb d_B_modelRow_3 rfl (lv_at hl 0 rfl) ?_
  refine va_get (D := D) (ci := 0) (v := .int (nI lv)) (C := R_B) (T := F_B) (N := 14) hx hb hts in_B hown hK hP 0 rfl rfl 11 (by decide) (hts _ wd_58) (fun _ h9 => h9) rfl d_B_modelRow_4 ?_
  refine n_add hx hb d_B_modelRow_7 ?_
  exact fn_iret hx hb hr hlocks hAe hK hP hD hS rfl d_B_modelRow_8
set_option maxHeartbeats 4000000 in
set_option maxRecDepth 100000 in
theorem c_B_hasModel (l : Launch) (D : va_G) (ad : Nat → Nat) (cL cI : ClassId) (nv nb nt nf na lv nm : Nat) (vw vp tw ab am : Nat → Nat) (w : Nat → Int64) (hok : Bok nv nb nt nf na lv nm vw vp tw ab am)  : Fn l y_B_hasModel (wk y_B_hasModel b_B_hasModel 1 (some .boolean)) rm_B_hasModel D cls [(cL, .long), (cI, .int)] [.ref (ad 0)] (bsW ad cL cI nv nb nt nf na lv nm vw vp tw ab am w) XT (some (.int (bI (!pNone w (250 + lv) (250 + lv))))) (bsW ad cL cI nv nb nt nf na lv nm vw vp tw ab am w) := by
  refine Fn.of (by decide) rfl (Nat.le_of_ble_eq_true rfl) ?_
  intro p e s m below meth c A ls hx hb hml hr hts0 hown hlocks hnm hP hK hD hS hA hAe hX hl
  have hts : ∀ w ∈ lw_ok, w.before _ s = true := fun w h => hts0 w (List.mem_cons_of_mem _ h)
  have hown : s.vm.findClass R_B = some m.cls := hown
  have hP : va_P D cls (bsW ad cL cI nv nb nt nf na lv nm vw vp tw ab am w) s.heap := hP
  have hl : lv_has ls 1 [(0, .ref (ad 0))] := hl
  obtain ⟨o_nv, o_nb, o_nt, o_nf, o_na, o_lv, o_nm, o_vw, o_tw, o_am, o_ab⟩ := id hok
  refine lv_aload_n hx hb d_B_hasModel_0 rfl (lv_at hl 0 rfl) ?_
  refine va_get (D := D) (ci := 0) (v := .ref (ad 2)) (C := R_B) (T := F_B) (N := 14) hx hb hts in_B hown hK hP 0 rfl rfl 0 (by decide) (hts _ wd_47) (fun _ h9 => h9) rfl d_B_hasModel_1 ?_
  refine lv_aload_n hx hb d_B_hasModel_4 rfl (lv_at hl 0 rfl) ?_
  refine fn_V (ws' := (bsW ad cL cI nv nb nt nf na lv nm vw vp tw ab am w)) (w1 := (bsW ad cL cI nv nb nt nf na lv nm vw vp tw ab am w)) (wc := (bsW ad cL cI nv nb nt nf na lv nm vw vp tw ab am w)) (wr := []) ⟨hx, hb, hml, hown, hts⟩ (c_B_modelRow l D ad cL cI nv nb nt nf na lv nm vw vp tw ab am w hok ) ⟨callB_of 0 hts (gW wd_102) rfl rfl rfl (hts _ wd_1) (hts _ wd_99) hd_B_modelRow ⟨Nat.le_of_ble_eq_true rfl, Nat.le_of_ble_eq_true rfl⟩, hts _ wd_101, hts _ wd_p1⟩ XT_ok (fun _ _ _ => trivial) hK hP hD hS hA 0 0 rfl rfl rfl [0, 1] [0, 1, 2, 3, 4, 5, 6, 7, 8] [] [0, 1, 2, 3, 4, 5, 6, 7, 8] rfl rfl rfl rfl rfl (by decide) rfl rfl rfl hl.1 rfl (Nat.le_of_ble_eq_true rfl) d_B_hasModel_5 ⟨Nat.zero_le _, Nat.zero_le _⟩ (st1 := [.int (nI (250 + lv)), .ref (ad 2)]) rfl (fun H locs hP hD hS => ?_)
  refine fn_V (ws' := (bsW ad cL cI nv nb nt nf na lv nm vw vp tw ab am w)) (w1 := (setsW (ad 2) (ad 3) cL w)) (wc := (setsW (ad 2) (ad 3) cL w)) (wr := [(ad 0, .inr (0, [.ref (ad 2), .ref (ad 1), .ref (ad 4), .ref (ad 5), .int (nI nv), .int (nI nb), .ref (ad 6), .int (nI nt), .int (nI nf), .ref (ad 7), .int (nI na), .int (nI lv), .ref (ad 8), .int (nI nm)])), (ad 1, .inr (2, [.ref (ad 2)])), (ad 4, .inl (cI, 6, .inl (fun j => nI (vw j)))), (ad 5, .inl (cI, 6, .inl (fun j => nI (vp j)))), (ad 6, .inl (cI, 50, .inl (fun j => nI (tw j)))), (ad 7, .inl (cI, 6, .inl (fun j => nI (ab j)))), (ad 8, .inl (cI, 8, .inl (fun j => nI (am j))))]) ⟨hx, hb, hml, hown, hts⟩ (c_S_isEmpty l D (ad 2) (ad 3) cL w (250 + lv) (by omega)) ⟨callB_of 1 hts (gW wd_106) rfl rfl rfl (hts _ wd_3) (hts _ wd_103) hd_S_isEmpty ⟨Nat.le_of_ble_eq_true rfl, Nat.le_of_ble_eq_true rfl⟩, hts _ wd_104, hts _ wd_105⟩ XT_ok (fun _ _ _ => trivial) hK hP hD hS hA 2 1 rfl rfl rfl [0] [2, 3] [0, 1, 4, 5, 6, 7, 8] [0, 1, 7, 8, 2, 3, 4, 5, 6] rfl rfl rfl rfl rfl (by decide) rfl rfl rfl hl.1 rfl (Nat.le_of_ble_eq_true rfl) d_B_hasModel_8 ⟨Nat.zero_le _, Nat.zero_le _⟩ (st1 := [.int (bI (pNone w (250 + lv) (250 + lv)))]) rfl (fun H locs hP hD hS => ?_)
  refine b_if_ne (tgt := 18) hx hb d_B_hasModel_11 (by decide) (fun c_11 => ?_) (fun c_11 => ?_)
  · refine lv_iconst (v := nI 0) hx hb d_B_hasModel_18 (by decide) ?_
    exact fn_zret hx hb hr hlocks hAe hK hP hD hS (by rw [c_11]; rfl) d_B_hasModel_19
  · refine lv_iconst (v := nI 1) hx hb d_B_hasModel_14 (by decide) ?_
    refine lv_goto (tgt := 19) hx hb d_B_hasModel_15 (by decide) ?_
    exact fn_zret hx hb hr hlocks hAe hK hP hD hS (by rw [c_11]; rfl) d_B_hasModel_19
set_option maxHeartbeats 4000000 in
set_option maxRecDepth 100000 in
theorem c_B_allAssumptions (l : Launch) (D : va_G) (ad : Nat → Nat) (cL cI : ClassId) (nv nb nt nf na lv nm : Nat) (vw vp tw ab am : Nat → Nat) (w : Nat → Int64) (hok : Bok nv nb nt nf na lv nm vw vp tw ab am)  : Fn l y_B_allAssumptions (wk y_B_allAssumptions b_B_allAssumptions 1 (some .int)) rm_B_allAssumptions D cls [(cL, .long), (cI, .int)] [.ref (ad 0)] (bsW ad cL cI nv nb nt nf na lv nm vw vp tw ab am w) XT (some (.int (nI (2 ^ nm - 1)))) (bsW ad cL cI nv nb nt nf na lv nm vw vp tw ab am w) := by
  refine Fn.of (by decide) rfl (Nat.le_of_ble_eq_true rfl) ?_
  intro p e s m below meth c A ls hx hb hml hr hts0 hown hlocks hnm hP hK hD hS hA hAe hX hl
  have hts : ∀ w ∈ lw_ok, w.before _ s = true := fun w h => hts0 w (List.mem_cons_of_mem _ h)
  have hown : s.vm.findClass R_B = some m.cls := hown
  have hP : va_P D cls (bsW ad cL cI nv nb nt nf na lv nm vw vp tw ab am w) s.heap := hP
  have hl : lv_has ls 1 [(0, .ref (ad 0))] := hl
  obtain ⟨o_nv, o_nb, o_nt, o_nf, o_na, o_lv, o_nm, o_vw, o_tw, o_am, o_ab⟩ := id hok
  have o2 : 1 ≤ 2 ^ nm := Nat.one_le_two_pow
  refine lv_iconst (v := nI 1) hx hb d_B_allAssumptions_0 (by decide) ?_
  refine lv_aload_n hx hb d_B_allAssumptions_1 rfl (lv_at hl 0 rfl) ?_
  refine va_get (D := D) (ci := 0) (v := .int (nI nm)) (C := R_B) (T := F_B) (N := 14) hx hb hts in_B hown hK hP 0 rfl rfl 13 (by decide) (hts _ wd_60) (fun _ h9 => h9) rfl d_B_allAssumptions_2 ?_
  refine n_shl1 hx hb (by omega) d_B_allAssumptions_5 ?_
  refine lv_iconst (v := nI 1) hx hb d_B_allAssumptions_6 (by decide) ?_
  refine n_sub hx hb (by omega) d_B_allAssumptions_7 ?_
  exact fn_iret hx hb hr hlocks hAe hK hP hD hS rfl d_B_allAssumptions_8
set_option maxHeartbeats 4000000 in
set_option maxRecDepth 100000 in
theorem c_B_canAssume (l : Launch) (D : va_G) (ad : Nat → Nat) (cL cI : ClassId) (nv nb nt nf na lv nm : Nat) (vw vp tw ab am : Nat → Nat) (w : Nat → Int64) (hok : Bok nv nb nt nf na lv nm vw vp tw ab am) (P : Nat) (hPb : P < 2 ^ 31) : Fn l y_B_canAssume (wk y_B_canAssume b_B_canAssume 3 (some .boolean)) rm_B_canAssume D cls [(cL, .long), (cI, .int)] [.ref (ad 0), .int (nI P)] (bsW ad cL cI nv nb nt nf na lv nm vw vp tw ab am w) XT (some (.int (bI (pCan am lv nm P w)))) (bsW ad cL cI nv nb nt nf na lv nm vw vp tw ab am (wAsm am lv nm P w)) := by
  refine Fn.of (by decide) rfl (Nat.le_of_ble_eq_true rfl) ?_
  intro p e s m below meth c A ls hx hb hml hr hts0 hown hlocks hnm hP hK hD hS hA hAe hX hl
  have hts : ∀ w ∈ lw_ok, w.before _ s = true := fun w h => hts0 w (List.mem_cons_of_mem _ h)
  have hown : s.vm.findClass R_B = some m.cls := hown
  have hP : va_P D cls (bsW ad cL cI nv nb nt nf na lv nm vw vp tw ab am w) s.heap := hP
  have hl : lv_has ls 3 [(0, .ref (ad 0)), (1, .int (nI P))] := hl
  obtain ⟨o_nv, o_nb, o_nt, o_nf, o_na, o_lv, o_nm, o_vw, o_tw, o_am, o_ab⟩ := id hok
  refine lv_aload_n hx hb d_B_canAssume_0 rfl (lv_at hl 0 rfl) ?_
  refine va_get (D := D) (ci := 0) (v := .ref (ad 2)) (C := R_B) (T := F_B) (N := 14) hx hb hts in_B hown hK hP 0 rfl rfl 0 (by decide) (hts _ wd_47) (fun _ h9 => h9) rfl d_B_canAssume_1 ?_
  refine lv_sipush (v := nI 256) hx hb d_B_canAssume_4 (by decide) ?_
  refine lv_aload_n hx hb d_B_canAssume_7 rfl (lv_at hl 0 rfl) ?_
  refine fn_V (ws' := (bsW ad cL cI nv nb nt nf na lv nm vw vp tw ab am w)) (w1 := (bsW ad cL cI nv nb nt nf na lv nm vw vp tw ab am w)) (wc := (bsW ad cL cI nv nb nt nf na lv nm vw vp tw ab am w)) (wr := []) ⟨hx, hb, hml, hown, hts⟩ (c_B_modelRow l D ad cL cI nv nb nt nf na lv nm vw vp tw ab am w hok ) ⟨callB_of 0 hts (gW wd_102) rfl rfl rfl (hts _ wd_1) (hts _ wd_99) hd_B_modelRow ⟨Nat.le_of_ble_eq_true rfl, Nat.le_of_ble_eq_true rfl⟩, hts _ wd_101, hts _ wd_p1⟩ XT_ok (fun _ _ _ => trivial) hK hP hD hS hA 0 0 rfl rfl rfl [0, 1] [0, 1, 2, 3, 4, 5, 6, 7, 8] [] [0, 1, 2, 3, 4, 5, 6, 7, 8] rfl rfl rfl rfl rfl (by decide) rfl rfl rfl hl.1 rfl (Nat.le_of_ble_eq_true rfl) d_B_canAssume_8 ⟨Nat.zero_le _, Nat.zero_le _⟩ (st1 := [.int (nI (250 + lv)), .int (nI 256), .ref (ad 2)]) rfl (fun H locs hP hD hS => ?_)
  refine lv_iconst (v := nI 1) hx hb d_B_canAssume_11 (by decide) ?_
  refine fn_V (ws' := (bsW ad cL cI nv nb nt nf na lv nm vw vp tw ab am (oCopy 256 (250 + lv) 1 w))) (w1 := (setsW (ad 2) (ad 3) cL (oCopy 256 (250 + lv) 1 w))) (wc := (setsW (ad 2) (ad 3) cL w)) (wr := [(ad 0, .inr (0, [.ref (ad 2), .ref (ad 1), .ref (ad 4), .ref (ad 5), .int (nI nv), .int (nI nb), .ref (ad 6), .int (nI nt), .int (nI nf), .ref (ad 7), .int (nI na), .int (nI lv), .ref (ad 8), .int (nI nm)])), (ad 1, .inr (2, [.ref (ad 2)])), (ad 4, .inl (cI, 6, .inl (fun j => nI (vw j)))), (ad 5, .inl (cI, 6, .inl (fun j => nI (vp j)))), (ad 6, .inl (cI, 50, .inl (fun j => nI (tw j)))), (ad 7, .inl (cI, 6, .inl (fun j => nI (ab j)))), (ad 8, .inl (cI, 8, .inl (fun j => nI (am j))))]) ⟨hx, hb, hml, hown, hts⟩ (c_S_copy l D (ad 2) (ad 3) cL w 256 (250 + lv) 1 (by omega) (by omega) (by omega)) ⟨callB_of 3 hts (gW wd_130) rfl rfl rfl (hts _ wd_3) (hts _ wd_127) hd_S_copy ⟨Nat.le_of_ble_eq_true rfl, Nat.le_of_ble_eq_true rfl⟩, hts _ wd_128, hts _ wd_129⟩ XT_ok (fun _ _ _ => trivial) hK hP hD hS hA 2 1 rfl rfl rfl [0] [2, 3] [0, 1, 4, 5, 6, 7, 8] [0, 1, 7, 8, 2, 3, 4, 5, 6] rfl rfl rfl rfl rfl (by decide) rfl rfl rfl hl.1 rfl (Nat.le_of_ble_eq_true rfl) d_B_canAssume_12 ⟨Nat.zero_le _, Nat.zero_le _⟩ (st1 := []) rfl (fun H locs hP hD hS => ?_)
  refine lv_iconst (v := nI 0) hx hb d_B_canAssume_15 (by decide) ?_
  refine lv_istore_n (lv' := [(2, .int (nI 0)), (0, .ref (ad 0)), (1, .int (nI P))]) hx hb d_B_canAssume_16 rfl hl (by decide) rfl (fun ls hl => ?_)
  refine w_loop 17 [] (nm) (fun i H locs ls => va_P D cls (bsW ad cL cI nv nb nt nf na lv nm vw vp tw ab am (oAsm am P i (oCopy 256 (250 + lv) 1 w))) H ∧ va_D A (bsW ad cL cI nv nb nt nf na lv nm vw vp tw ab am (oAsm am P i (oCopy 256 (250 + lv) 1 w))) ∧ va_S A s.heap H locs ∧ lv_has ls 3 [(2, .int (nI i)), (0, .ref (ad 0)), (1, .int (nI P))]) ?_ 0 (Nat.zero_le _) _ _ ls ⟨hP, hD, hS, lv_sub hl [0, 1, 2] rfl⟩
  intro i hi ih H locs ls ⟨hP, hD, hS, hl⟩
  refine lv_iload_n hx hb d_B_canAssume_17 rfl (lv_at hl 0 rfl) ?_
  refine lv_aload_n hx hb d_B_canAssume_18 rfl (lv_at hl 1 rfl) ?_
  refine va_get (D := D) (ci := 0) (v := .int (nI nm)) (C := R_B) (T := F_B) (N := 14) hx hb hts in_B hown hK hP 0 rfl rfl 13 (by decide) (hts _ wd_60) (fun _ h9 => h9) rfl d_B_canAssume_19 ?_
  refine z_icmp_ge (tgt := 60) hx hb (nI_toInt (by omega)) (nI_toInt (by omega)) d_B_canAssume_22 (by decide) (fun c_22 => ?_) (fun c_22 => ?_)
  · obtain rfl : nm = i := by omega
    refine lv_aload_n hx hb d_B_canAssume_60 rfl (lv_at hl 1 rfl) ?_
    refine va_get (D := D) (ci := 0) (v := .ref (ad 2)) (C := R_B) (T := F_B) (N := 14) hx hb hts in_B hown hK hP 0 rfl rfl 0 (by decide) (hts _ wd_47) (fun _ h9 => h9) rfl d_B_canAssume_61 ?_
    refine lv_sipush (v := nI 256) hx hb d_B_canAssume_64 (by decide) ?_
    refine fn_V (ws' := (bsW ad cL cI nv nb nt nf na lv nm vw vp tw ab am (wAsm am lv nm P w))) (w1 := (setsW (ad 2) (ad 3) cL (wAsm am lv nm P w))) (wc := (setsW (ad 2) (ad 3) cL (wAsm am lv nm P w))) (wr := [(ad 0, .inr (0, [.ref (ad 2), .ref (ad 1), .ref (ad 4), .ref (ad 5), .int (nI nv), .int (nI nb), .ref (ad 6), .int (nI nt), .int (nI nf), .ref (ad 7), .int (nI na), .int (nI lv), .ref (ad 8), .int (nI nm)])), (ad 1, .inr (2, [.ref (ad 2)])), (ad 4, .inl (cI, 6, .inl (fun j => nI (vw j)))), (ad 5, .inl (cI, 6, .inl (fun j => nI (vp j)))), (ad 6, .inl (cI, 50, .inl (fun j => nI (tw j)))), (ad 7, .inl (cI, 6, .inl (fun j => nI (ab j)))), (ad 8, .inl (cI, 8, .inl (fun j => nI (am j))))]) ⟨hx, hb, hml, hown, hts⟩ (c_S_isEmpty l D (ad 2) (ad 3) cL (wAsm am lv nm P w) 256 (by omega)) ⟨callB_of 1 hts (gW wd_106) rfl rfl rfl (hts _ wd_3) (hts _ wd_103) hd_S_isEmpty ⟨Nat.le_of_ble_eq_true rfl, Nat.le_of_ble_eq_true rfl⟩, hts _ wd_104, hts _ wd_105⟩ XT_ok (fun _ _ _ => trivial) hK hP hD hS hA 2 1 rfl rfl rfl [0] [2, 3] [0, 1, 4, 5, 6, 7, 8] [0, 1, 7, 8, 2, 3, 4, 5, 6] rfl rfl rfl rfl rfl (by decide) rfl rfl rfl hl.1 rfl (Nat.le_of_ble_eq_true rfl) d_B_canAssume_67 ⟨Nat.zero_le _, Nat.zero_le _⟩ (st1 := [.int (bI (pNone (wAsm am lv nm P w) 256 256))]) rfl (fun H locs hP hD hS => ?_)
    refine b_if_ne (tgt := 77) hx hb d_B_canAssume_70 (by decide) (fun c_70 => ?_) (fun c_70 => ?_)
    · refine lv_iconst (v := nI 0) hx hb d_B_canAssume_77 (by decide) ?_
      exact fn_zret hx hb hr hlocks hAe hK hP hD hS (by unfold pCan; rw [c_70]; rfl) d_B_canAssume_78
    · refine lv_iconst (v := nI 1) hx hb d_B_canAssume_73 (by decide) ?_
      refine lv_goto (tgt := 78) hx hb d_B_canAssume_74 (by decide) ?_
      exact fn_zret hx hb hr hlocks hAe hK hP hD hS (by unfold pCan; rw [c_70]; rfl) d_B_canAssume_78
  · refine lv_iload_n hx hb d_B_canAssume_25 rfl (lv_at hl 2 rfl) ?_
    refine lv_iload_n hx hb d_B_canAssume_26 rfl (lv_at hl 0 rfl) ?_
    refine n_shr hx hb (by omega) (by omega) d_B_canAssume_27 ?_
    refine lv_iconst (v := nI 1) hx hb d_B_canAssume_28 (by decide) ?_
    refine n_and1 hx hb d_B_canAssume_29 ?_
    refine lv_iconst (v := nI 1) hx hb d_B_canAssume_30 (by decide) ?_
    refine z_icmp_ne (tgt := 54) hx hb (nI_toInt (by omega)) (nI_toInt (by omega)) d_B_canAssume_31 (by decide) (fun c_31 => ?_) (fun c_31 => ?_)
    · refine lv_iinc (v := nI (i + 1)) (lv' := [(2, .int (nI (i + 1))), (0, .ref (ad 0)), (1, .int (nI P))]) hx hb d_B_canAssume_54 hl (k := 0) rfl (by rw [← nI_1]; rfl) (by decide) rfl (fun ls hl => ?_)
      refine lv_goto (tgt := 17) hx hb d_B_canAssume_57 (by decide) ?_
      exact ih _ _ _ (by omega) ⟨by rw [show oAsm am P (i + 1) (oCopy 256 (250 + lv) 1 w) = oAsm am P i (oCopy 256 (250 + lv) 1 w) from if_neg (by omega)]; exact hP, by rw [show oAsm am P (i + 1) (oCopy 256 (250 + lv) 1 w) = oAsm am P i (oCopy 256 (250 + lv) 1 w) from if_neg (by omega)]; exact hD, hS, lv_sub hl [0, 1, 2] rfl⟩
    · have oa := o_am i (by omega)
      refine lv_aload_n hx hb d_B_canAssume_34 rfl (lv_at hl 1 rfl) ?_
      refine va_get (D := D) (ci := 0) (v := .ref (ad 2)) (C := R_B) (T := F_B) (N := 14) hx hb hts in_B hown hK hP 0 rfl rfl 0 (by decide) (hts _ wd_47) (fun _ h9 => h9) rfl d_B_canAssume_35 ?_
      refine lv_sipush (v := nI 256) hx hb d_B_canAssume_38 (by decide) ?_
      refine lv_sipush (v := nI 256) hx hb d_B_canAssume_41 (by decide) ?_
      refine lv_aload_n hx hb d_B_canAssume_44 rfl (lv_at hl 1 rfl) ?_
      refine va_get (D := D) (ci := 0) (v := .ref (ad 8)) (C := R_B) (T := F_B) (N := 14) hx hb hts in_B hown hK hP 0 rfl rfl 12 (by decide) (hts _ wd_59) (fun _ h9 => h9) rfl d_B_canAssume_45 ?_
      refine lv_iload_n hx hb d_B_canAssume_48 rfl (lv_at hl 0 rfl) ?_
      refine n_iald hx hb hK hP 8 1 rfl rfl (i := i) (by omega) (by omega) d_B_canAssume_49 ?_
      refine lv_iconst (v := nI 1) hx hb d_B_canAssume_50 (by decide) ?_
      refine fn_V (ws' := (bsW ad cL cI nv nb nt nf na lv nm vw vp tw ab am (oAnd 256 256 (am i) 1 (oAsm am P i (oCopy 256 (250 + lv) 1 w))))) (w1 := (setsW (ad 2) (ad 3) cL (oAnd 256 256 (am i) 1 (oAsm am P i (oCopy 256 (250 + lv) 1 w))))) (wc := (setsW (ad 2) (ad 3) cL (oAsm am P i (oCopy 256 (250 + lv) 1 w)))) (wr := [(ad 0, .inr (0, [.ref (ad 2), .ref (ad 1), .ref (ad 4), .ref (ad 5), .int (nI nv), .int (nI nb), .ref (ad 6), .int (nI nt), .int (nI nf), .ref (ad 7), .int (nI na), .int (nI lv), .ref (ad 8), .int (nI nm)])), (ad 1, .inr (2, [.ref (ad 2)])), (ad 4, .inl (cI, 6, .inl (fun j => nI (vw j)))), (ad 5, .inl (cI, 6, .inl (fun j => nI (vp j)))), (ad 6, .inl (cI, 50, .inl (fun j => nI (tw j)))), (ad 7, .inl (cI, 6, .inl (fun j => nI (ab j)))), (ad 8, .inl (cI, 8, .inl (fun j => nI (am j))))]) ⟨hx, hb, hml, hown, hts⟩ (c_S_and l D (ad 2) (ad 3) cL (oAsm am P i (oCopy 256 (250 + lv) 1 w)) 256 256 (am i) 1 (by omega) (by omega) (by omega) (by omega) (by omega)) ⟨callB_of 4 hts (gW wd_134) rfl rfl rfl (hts _ wd_3) (hts _ wd_131) hd_S_and ⟨Nat.le_of_ble_eq_true rfl, Nat.le_of_ble_eq_true rfl⟩, hts _ wd_132, hts _ wd_133⟩ XT_ok (fun _ _ _ => trivial) hK hP hD hS hA 2 1 rfl rfl rfl [0] [2, 3] [0, 1, 4, 5, 6, 7, 8] [0, 1, 7, 8, 2, 3, 4, 5, 6] rfl rfl rfl rfl rfl (by decide) rfl rfl rfl hl.1 rfl (Nat.le_of_ble_eq_true rfl) d_B_canAssume_51 ⟨Nat.zero_le _, Nat.zero_le _⟩ (st1 := []) rfl (fun H locs hP hD hS => ?_)
      refine lv_iinc (v := nI (i + 1)) (lv' := [(2, .int (nI (i + 1))), (0, .ref (ad 0)), (1, .int (nI P))]) hx hb d_B_canAssume_54 hl (k := 0) rfl (by rw [← nI_1]; rfl) (by decide) rfl (fun ls hl => ?_)
      refine lv_goto (tgt := 17) hx hb d_B_canAssume_57 (by decide) ?_
      exact ih _ _ _ (by omega) ⟨by rw [show oAsm am P (i + 1) (oCopy 256 (250 + lv) 1 w) = oAnd 256 256 (am i) 1 (oAsm am P i (oCopy 256 (250 + lv) 1 w)) from if_pos (by omega)]; exact hP, by rw [show oAsm am P (i + 1) (oCopy 256 (250 + lv) 1 w) = oAnd 256 256 (am i) 1 (oAsm am P i (oCopy 256 (250 + lv) 1 w)) from if_pos (by omega)]; exact hD, hS, lv_sub hl [0, 1, 2] rfl⟩
set_option maxHeartbeats 4000000 in
set_option maxRecDepth 100000 in
theorem c_B_widthOrNone (l : Launch) (D : va_G) (ad : Nat → Nat) (cL cI : ClassId) (nv nb nt nf na lv nm : Nat) (vw vp tw ab am : Nat → Nat) (w : Nat → Int64) (hok : Bok nv nb nt nf na lv nm vw vp tw ab am) (x : Int32) : Fn l y_B_widthOrNone (wk y_B_widthOrNone b_B_widthOrNone 2 (some .int)) rm_B_widthOrNone D cls [(cL, .long), (cI, .int)] [.ref (ad 0), .int x] (bsW ad cL cI nv nb nt nf na lv nm vw vp tw ab am w) XT (some (.int (nI (tW nt tw x)))) (bsW ad cL cI nv nb nt nf na lv nm vw vp tw ab am w) := by
  refine Fn.of (by decide) rfl (Nat.le_of_ble_eq_true rfl) ?_
  intro p e s m below meth c A ls hx hb hml hr hts0 hown hlocks hnm hP hK hD hS hA hAe hX hl
  have hts : ∀ w ∈ lw_ok, w.before _ s = true := fun w h => hts0 w (List.mem_cons_of_mem _ h)
  have hown : s.vm.findClass R_B = some m.cls := hown
  have hP : va_P D cls (bsW ad cL cI nv nb nt nf na lv nm vw vp tw ab am w) s.heap := hP
  have hl : lv_has ls 2 [(0, .ref (ad 0)), (1, .int x)] := hl
  obtain ⟨o_nv, o_nb, o_nt, o_nf, o_na, o_lv, o_nm, o_vw, o_tw, o_am, o_ab⟩ := id hok
  refine lv_aload_n hx hb d_B_widthOrNone_0 rfl (lv_at hl 0 rfl) ?_
  refine lv_iload_n hx hb d_B_widthOrNone_1 rfl (lv_at hl 1 rfl) ?_
  refine fn_V (ws' := (bsW ad cL cI nv nb nt nf na lv nm vw vp tw ab am w)) (w1 := (bsW ad cL cI nv nb nt nf na lv nm vw vp tw ab am w)) (wc := (bsW ad cL cI nv nb nt nf na lv nm vw vp tw ab am w)) (wr := []) ⟨hx, hb, hml, hown, hts⟩ (c_B_hasTerm l D ad cL cI nv nb nt nf na lv nm vw vp tw ab am w hok x) ⟨callB_of 1 hts (gW wd_252) rfl rfl rfl (hts _ wd_1) (hts _ wd_249) hd_B_hasTerm ⟨Nat.le_of_ble_eq_true rfl, Nat.le_of_ble_eq_true rfl⟩, hts _ wd_251, hts _ wd_p10⟩ XT_ok (fun _ _ _ => trivial) hK hP hD hS hA 0 0 rfl rfl rfl [0, 1] [0, 1, 2, 3, 4, 5, 6, 7, 8] [] [0, 1, 2, 3, 4, 5, 6, 7, 8] rfl rfl rfl rfl rfl (by decide) rfl rfl rfl hl.1 rfl (Nat.le_of_ble_eq_true rfl) d_B_widthOrNone_2 ⟨Nat.zero_le _, Nat.zero_le _⟩ (st1 := [.int (bI (hasB x nt))]) rfl (fun H locs hP hD hS => ?_)
  refine b_if_eq (tgt := 17) hx hb d_B_widthOrNone_5 (by decide) (fun c_5 => ?_) (fun c_5 => ?_)
  · refine lv_iconst (v := nI 0) hx hb d_B_widthOrNone_17 (by decide) ?_
    exact fn_iret hx hb hr hlocks hAe hK hP hD hS (by rw [tW_no c_5]) d_B_widthOrNone_18
  · obtain ⟨j, hj, rfl⟩ := hasB_nat c_5
    refine lv_aload_n hx hb d_B_widthOrNone_8 rfl (lv_at hl 0 rfl) ?_
    refine va_get (D := D) (ci := 0) (v := .ref (ad 6)) (C := R_B) (T := F_B) (N := 14) hx hb hts in_B hown hK hP 0 rfl rfl 6 (by decide) (hts _ wd_53) (fun _ h9 => h9) rfl d_B_widthOrNone_9 ?_
    refine lv_iload_n hx hb d_B_widthOrNone_12 rfl (lv_at hl 1 rfl) ?_
    refine n_iald hx hb hK hP 6 1 rfl rfl (i := j) (by omega) (by omega) d_B_widthOrNone_13 ?_
    refine lv_goto (tgt := 18) hx hb d_B_widthOrNone_14 (by decide) ?_
    exact fn_iret hx hb hr hlocks hAe hK hP hD hS (by rw [tW_I hj (by omega)]) d_B_widthOrNone_18
set_option maxHeartbeats 4000000 in
set_option maxRecDepth 100000 in
theorem c_B_commonWidth (l : Launch) (D : va_G) (ad : Nat → Nat) (cL cI : ClassId) (nv nb nt nf na lv nm : Nat) (vw vp tw ab am : Nat → Nat) (w : Nat → Int64) (hok : Bok nv nb nt nf na lv nm vw vp tw ab am) (x y : Int32) : Fn l y_B_commonWidth (wk y_B_commonWidth b_B_commonWidth 3 (some .int)) rm_B_commonWidth D cls [(cL, .long), (cI, .int)] [.ref (ad 0), .int x, .int y] (bsW ad cL cI nv nb nt nf na lv nm vw vp tw ab am w) XT (some (.int (nI (cW nt tw x y)))) (bsW ad cL cI nv nb nt nf na lv nm vw vp tw ab am w) := by
  refine Fn.of (by decide) rfl (Nat.le_of_ble_eq_true rfl) ?_
  intro p e s m below meth c A ls hx hb hml hr hts0 hown hlocks hnm hP hK hD hS hA hAe hX hl
  have hts : ∀ w ∈ lw_ok, w.before _ s = true := fun w h => hts0 w (List.mem_cons_of_mem _ h)
  have hown : s.vm.findClass R_B = some m.cls := hown
  have hP : va_P D cls (bsW ad cL cI nv nb nt nf na lv nm vw vp tw ab am w) s.heap := hP
  have hl : lv_has ls 3 [(0, .ref (ad 0)), (1, .int x), (2, .int y)] := hl
  obtain ⟨o_nv, o_nb, o_nt, o_nf, o_na, o_lv, o_nm, o_vw, o_tw, o_am, o_ab⟩ := id hok
  refine lv_aload_n hx hb d_B_commonWidth_0 rfl (lv_at hl 0 rfl) ?_
  refine lv_iload_n hx hb d_B_commonWidth_1 rfl (lv_at hl 1 rfl) ?_
  refine fn_V (ws' := (bsW ad cL cI nv nb nt nf na lv nm vw vp tw ab am w)) (w1 := (bsW ad cL cI nv nb nt nf na lv nm vw vp tw ab am w)) (wc := (bsW ad cL cI nv nb nt nf na lv nm vw vp tw ab am w)) (wr := []) ⟨hx, hb, hml, hown, hts⟩ (c_B_widthOrNone l D ad cL cI nv nb nt nf na lv nm vw vp tw ab am w hok x) ⟨callB_of 1 hts (gW wd_248) rfl rfl rfl (hts _ wd_1) (hts _ wd_245) hd_B_widthOrNone ⟨Nat.le_of_ble_eq_true rfl, Nat.le_of_ble_eq_true rfl⟩, hts _ wd_247, hts _ wd_p9⟩ XT_ok (fun _ _ _ => trivial) hK hP hD hS hA 0 0 rfl rfl rfl [0, 1] [0, 1, 2, 3, 4, 5, 6, 7, 8] [] [0, 1, 2, 3, 4, 5, 6, 7, 8] rfl rfl rfl rfl rfl (by decide) rfl rfl rfl hl.1 rfl (Nat.le_of_ble_eq_true rfl) d_B_commonWidth_2 ⟨Nat.zero_le _, Nat.zero_le _⟩ (st1 := [.int (nI (tW nt tw x))]) rfl (fun H locs hP hD hS => ?_)
  have tl1 := tW_le (nt := nt) (tw := tw) o_tw (by omega) x
  refine lv_aload_n hx hb d_B_commonWidth_5 rfl (lv_at hl 0 rfl) ?_
  refine lv_iload_n hx hb d_B_commonWidth_6 rfl (lv_at hl 2 rfl) ?_
  refine fn_V (ws' := (bsW ad cL cI nv nb nt nf na lv nm vw vp tw ab am w)) (w1 := (bsW ad cL cI nv nb nt nf na lv nm vw vp tw ab am w)) (wc := (bsW ad cL cI nv nb nt nf na lv nm vw vp tw ab am w)) (wr := []) ⟨hx, hb, hml, hown, hts⟩ (c_B_widthOrNone l D ad cL cI nv nb nt nf na lv nm vw vp tw ab am w hok y) ⟨callB_of 1 hts (gW wd_248) rfl rfl rfl (hts _ wd_1) (hts _ wd_245) hd_B_widthOrNone ⟨Nat.le_of_ble_eq_true rfl, Nat.le_of_ble_eq_true rfl⟩, hts _ wd_247, hts _ wd_p9⟩ XT_ok (fun _ _ _ => trivial) hK hP hD hS hA 0 0 rfl rfl rfl [0, 1] [0, 1, 2, 3, 4, 5, 6, 7, 8] [] [0, 1, 2, 3, 4, 5, 6, 7, 8] rfl rfl rfl rfl rfl (by decide) rfl rfl rfl hl.1 rfl (Nat.le_of_ble_eq_true rfl) d_B_commonWidth_7 ⟨Nat.zero_le _, Nat.zero_le _⟩ (st1 := [.int (nI (tW nt tw y)), .int (nI (tW nt tw x))]) rfl (fun H locs hP hD hS => ?_)
  have tl2 := tW_le (nt := nt) (tw := tw) o_tw (by omega) y
  refine z_icmp_ne (tgt := 21) hx hb (nI_toInt (by omega)) (nI_toInt (by omega)) d_B_commonWidth_10 (by decide) (fun c_10 => ?_) (fun c_10 => ?_)
  · refine lv_iconst (v := nI 0) hx hb d_B_commonWidth_21 (by decide) ?_
    exact fn_iret hx hb hr hlocks hAe hK hP hD hS (by unfold cW; rw [if_neg (by omega)]) d_B_commonWidth_22
  · refine lv_aload_n hx hb d_B_commonWidth_13 rfl (lv_at hl 0 rfl) ?_
    refine lv_iload_n hx hb d_B_commonWidth_14 rfl (lv_at hl 1 rfl) ?_
    refine fn_V (ws' := (bsW ad cL cI nv nb nt nf na lv nm vw vp tw ab am w)) (w1 := (bsW ad cL cI nv nb nt nf na lv nm vw vp tw ab am w)) (wc := (bsW ad cL cI nv nb nt nf na lv nm vw vp tw ab am w)) (wr := []) ⟨hx, hb, hml, hown, hts⟩ (c_B_widthOrNone l D ad cL cI nv nb nt nf na lv nm vw vp tw ab am w hok x) ⟨callB_of 1 hts (gW wd_248) rfl rfl rfl (hts _ wd_1) (hts _ wd_245) hd_B_widthOrNone ⟨Nat.le_of_ble_eq_true rfl, Nat.le_of_ble_eq_true rfl⟩, hts _ wd_247, hts _ wd_p9⟩ XT_ok (fun _ _ _ => trivial) hK hP hD hS hA 0 0 rfl rfl rfl [0, 1] [0, 1, 2, 3, 4, 5, 6, 7, 8] [] [0, 1, 2, 3, 4, 5, 6, 7, 8] rfl rfl rfl rfl rfl (by decide) rfl rfl rfl hl.1 rfl (Nat.le_of_ble_eq_true rfl) d_B_commonWidth_15 ⟨Nat.zero_le _, Nat.zero_le _⟩ (st1 := [.int (nI (tW nt tw x))]) rfl (fun H locs hP hD hS => ?_)
    have tl3 := tW_le (nt := nt) (tw := tw) o_tw (by omega) x
    refine lv_goto (tgt := 22) hx hb d_B_commonWidth_18 (by decide) ?_
    exact fn_iret hx hb hr hlocks hAe hK hP hD hS (by unfold cW; rw [if_pos (by omega)]) d_B_commonWidth_22
set_option maxHeartbeats 4000000 in
set_option maxRecDepth 100000 in
theorem c_B_joinedWidth (l : Launch) (D : va_G) (ad : Nat → Nat) (cL cI : ClassId) (nv nb nt nf na lv nm : Nat) (vw vp tw ab am : Nat → Nat) (w : Nat → Int64) (hok : Bok nv nb nt nf na lv nm vw vp tw ab am) (x y : Int32) : Fn l y_B_joinedWidth (wk y_B_joinedWidth b_B_joinedWidth 4 (some .int)) rm_B_joinedWidth D cls [(cL, .long), (cI, .int)] [.ref (ad 0), .int x, .int y] (bsW ad cL cI nv nb nt nf na lv nm vw vp tw ab am w) XT (some (.int (nI (jW nt tw x y)))) (bsW ad cL cI nv nb nt nf na lv nm vw vp tw ab am w) := by
  refine Fn.of (by decide) rfl (Nat.le_of_ble_eq_true rfl) ?_
  intro p e s m below meth c A ls hx hb hml hr hts0 hown hlocks hnm hP hK hD hS hA hAe hX hl
  have hts : ∀ w ∈ lw_ok, w.before _ s = true := fun w h => hts0 w (List.mem_cons_of_mem _ h)
  have hown : s.vm.findClass R_B = some m.cls := hown
  have hP : va_P D cls (bsW ad cL cI nv nb nt nf na lv nm vw vp tw ab am w) s.heap := hP
  have hl : lv_has ls 4 [(0, .ref (ad 0)), (1, .int x), (2, .int y)] := hl
  obtain ⟨o_nv, o_nb, o_nt, o_nf, o_na, o_lv, o_nm, o_vw, o_tw, o_am, o_ab⟩ := id hok
  refine lv_aload_n hx hb d_B_joinedWidth_0 rfl (lv_at hl 0 rfl) ?_
  refine lv_iload_n hx hb d_B_joinedWidth_1 rfl (lv_at hl 1 rfl) ?_
  refine fn_V (ws' := (bsW ad cL cI nv nb nt nf na lv nm vw vp tw ab am w)) (w1 := (bsW ad cL cI nv nb nt nf na lv nm vw vp tw ab am w)) (wc := (bsW ad cL cI nv nb nt nf na lv nm vw vp tw ab am w)) (wr := []) ⟨hx, hb, hml, hown, hts⟩ (c_B_hasTerm l D ad cL cI nv nb nt nf na lv nm vw vp tw ab am w hok x) ⟨callB_of 1 hts (gW wd_252) rfl rfl rfl (hts _ wd_1) (hts _ wd_249) hd_B_hasTerm ⟨Nat.le_of_ble_eq_true rfl, Nat.le_of_ble_eq_true rfl⟩, hts _ wd_251, hts _ wd_p10⟩ XT_ok (fun _ _ _ => trivial) hK hP hD hS hA 0 0 rfl rfl rfl [0, 1] [0, 1, 2, 3, 4, 5, 6, 7, 8] [] [0, 1, 2, 3, 4, 5, 6, 7, 8] rfl rfl rfl rfl rfl (by decide) rfl rfl rfl hl.1 rfl (Nat.le_of_ble_eq_true rfl) d_B_joinedWidth_2 ⟨Nat.zero_le _, Nat.zero_le _⟩ (st1 := [.int (bI (hasB x nt))]) rfl (fun H locs hP hD hS => ?_)
  refine b_if_eq (tgt := 16) hx hb d_B_joinedWidth_5 (by decide) (fun c_5 => ?_) (fun c_5 => ?_)
  · refine lv_iconst (v := nI 0) hx hb d_B_joinedWidth_16 (by decide) ?_
    exact fn_iret hx hb hr hlocks hAe hK hP hD hS (by unfold jW; rw [if_neg (fun q => by rw [c_5] at q; exact absurd q.1 (by decide))]) d_B_joinedWidth_17
  · refine lv_aload_n hx hb d_B_joinedWidth_8 rfl (lv_at hl 0 rfl) ?_
    refine lv_iload_n hx hb d_B_joinedWidth_9 rfl (lv_at hl 2 rfl) ?_
    refine fn_V (ws' := (bsW ad cL cI nv nb nt nf na lv nm vw vp tw ab am w)) (w1 := (bsW ad cL cI nv nb nt nf na lv nm vw vp tw ab am w)) (wc := (bsW ad cL cI nv nb nt nf na lv nm vw vp tw ab am w)) (wr := []) ⟨hx, hb, hml, hown, hts⟩ (c_B_hasTerm l D ad cL cI nv nb nt nf na lv nm vw vp tw ab am w hok y) ⟨callB_of 1 hts (gW wd_252) rfl rfl rfl (hts _ wd_1) (hts _ wd_249) hd_B_hasTerm ⟨Nat.le_of_ble_eq_true rfl, Nat.le_of_ble_eq_true rfl⟩, hts _ wd_251, hts _ wd_p10⟩ XT_ok (fun _ _ _ => trivial) hK hP hD hS hA 0 0 rfl rfl rfl [0, 1] [0, 1, 2, 3, 4, 5, 6, 7, 8] [] [0, 1, 2, 3, 4, 5, 6, 7, 8] rfl rfl rfl rfl rfl (by decide) rfl rfl rfl hl.1 rfl (Nat.le_of_ble_eq_true rfl) d_B_joinedWidth_10 ⟨Nat.zero_le _, Nat.zero_le _⟩ (st1 := [.int (bI (hasB y nt))]) rfl (fun H locs hP hD hS => ?_)
    refine b_if_ne (tgt := 18) hx hb d_B_joinedWidth_13 (by decide) (fun c_13 => ?_) (fun c_13 => ?_)
    · obtain ⟨i, hi, rfl⟩ := hasB_nat c_5
      obtain ⟨j, hj, rfl⟩ := hasB_nat c_13
      have oi := o_tw i hi
      have oj := o_tw j hj
      refine lv_aload_n hx hb d_B_joinedWidth_18 rfl (lv_at hl 0 rfl) ?_
      refine va_get (D := D) (ci := 0) (v := .ref (ad 6)) (C := R_B) (T := F_B) (N := 14) hx hb hts in_B hown hK hP 0 rfl rfl 6 (by decide) (hts _ wd_53) (fun _ h9 => h9) rfl d_B_joinedWidth_19 ?_
      refine lv_iload_n hx hb d_B_joinedWidth_22 rfl (lv_at hl 1 rfl) ?_
      refine n_iald hx hb hK hP 6 1 rfl rfl (i := i) (by omega) (by omega) d_B_joinedWidth_23 ?_
      refine lv_aload_n hx hb d_B_joinedWidth_24 rfl (lv_at hl 0 rfl) ?_
      refine va_get (D := D) (ci := 0) (v := .ref (ad 6)) (C := R_B) (T := F_B) (N := 14) hx hb hts in_B hown hK hP 0 rfl rfl 6 (by decide) (hts _ wd_53) (fun _ h9 => h9) rfl d_B_joinedWidth_25 ?_
      refine lv_iload_n hx hb d_B_joinedWidth_28 rfl (lv_at hl 2 rfl) ?_
      refine n_iald hx hb hK hP 6 1 rfl rfl (i := j) (by omega) (by omega) d_B_joinedWidth_29 ?_
      refine n_add hx hb d_B_joinedWidth_30 ?_
      refine lv_istore_n (lv' := [(3, .int (nI ((tw i) + (tw j)))), (0, .ref (ad 0)), (1, .int (nI i)), (2, .int (nI j))]) hx hb d_B_joinedWidth_31 rfl hl (by decide) rfl (fun ls hl => ?_)
      refine lv_iload_n hx hb d_B_joinedWidth_32 rfl (lv_at hl 0 rfl) ?_
      refine fn_S (ws' := (bsW ad cL cI nv nb nt nf na lv nm vw vp tw ab am w)) (w1 := (nilW)) (wc := (nilW)) (wr := [(ad 0, .inr (0, [.ref (ad 2), .ref (ad 1), .ref (ad 4), .ref (ad 5), .int (nI nv), .int (nI nb), .ref (ad 6), .int (nI nt), .int (nI nf), .ref (ad 7), .int (nI na), .int (nI lv), .ref (ad 8), .int (nI nm)])), (ad 1, .inr (2, [.ref (ad 2)])), (ad 2, .inr (1, [.ref (ad 3)])), (ad 3, .inl (cL, 4160, .inr (.inl w))), (ad 4, .inl (cI, 6, .inl (fun j => nI (vw j)))), (ad 5, .inl (cI, 6, .inl (fun j => nI (vp j)))), (ad 6, .inl (cI, 50, .inl (fun j => nI (tw j)))), (ad 7, .inl (cI, 6, .inl (fun j => nI (ab j)))), (ad 8, .inl (cI, 8, .inl (fun j => nI (am j))))]) ⟨hx, hb, hml, hown, hts⟩ (c_B_isWidth l D (nI ((tw i) + (tw j)))) ⟨callB_of 1 hts (gW wd_146) rfl rfl rfl (hts _ wd_1) (hts _ wd_144) hd_B_isWidth ⟨Nat.le_of_ble_eq_true rfl, Nat.le_of_ble_eq_true rfl⟩, hts _ wd_145⟩ XT_ok (fun _ _ _ => trivial) hK hP hD hS hA [] [] [0, 1, 2, 3, 4, 5, 6, 7, 8] [0, 1, 2, 3, 4, 5, 6, 7, 8] rfl rfl rfl rfl rfl (by decide) rfl rfl rfl hl.1 rfl (Nat.le_of_ble_eq_true rfl) d_B_joinedWidth_33 ⟨Nat.zero_le _, Nat.zero_le _⟩ (st1 := [.int (bI (wdB (nI ((tw i) + (tw j)))))]) rfl (fun H locs hP hD hS => ?_)
      refine b_if_eq (tgt := 43) hx hb d_B_joinedWidth_36 (by decide) (fun c_36 => ?_) (fun c_36 => ?_)
      · refine lv_iconst (v := nI 0) hx hb d_B_joinedWidth_43 (by decide) ?_
        exact fn_iret hx hb hr hlocks hAe hK hP hD hS (by rw [jW_I hi hj (by omega), if_neg (jw_f c_36 (by omega))]) d_B_joinedWidth_44
      · refine lv_iload_n hx hb d_B_joinedWidth_39 rfl (lv_at hl 0 rfl) ?_
        refine lv_goto (tgt := 44) hx hb d_B_joinedWidth_40 (by decide) ?_
        exact fn_iret hx hb hr hlocks hAe hK hP hD hS (by rw [jW_I hi hj (by omega), if_pos (jw_t c_36 (by omega))]) d_B_joinedWidth_44
    · refine lv_iconst (v := nI 0) hx hb d_B_joinedWidth_16 (by decide) ?_
      exact fn_iret hx hb hr hlocks hAe hK hP hD hS (by unfold jW; rw [if_neg (fun q => by rw [c_13] at q; exact absurd q.2 (by decide))]) d_B_joinedWidth_17
