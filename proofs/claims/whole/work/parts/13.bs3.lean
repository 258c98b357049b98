set_option maxHeartbeats 4000000 in
set_option maxRecDepth 100000 in
theorem c_B_variable (l : Launch) (D : va_G) (ad : Nat → Nat) (cL cI : ClassId) (nv nb nt nf na lv nm : Nat) (vw vp tw ab am : Nat → Nat) (w : Nat → Int64) (hok : Bok nv nb nt nf na lv nm vw vp tw ab am) (wd : Nat) (h1 : 1 ≤ wd) (h4 : wd ≤ 4) (hn : nv < 6) (hbt : nb + wd ≤ 10) : Fn l y_B_variable (wk y_B_variable b_B_variable 2 (some .int)) rm_B_variable D cls [(cL, .long), (cI, .int)] [.ref (ad 0), .int (nI wd)] (bsW ad cL cI nv nb nt nf na lv nm vw vp tw ab am w) XT (some (.int (nI nv))) (bsW ad cL cI (nv + 1) (nb + wd) nt nf na lv nm (updN vw nv wd) (updN vp nv (10 - (nb + wd))) tw ab am w) := by
  refine Fn.of (by decide) rfl (Nat.le_of_ble_eq_true rfl) ?_
  intro p e s m below meth c A ls hx hb hml hr hts0 hown hlocks hnm hP hK hD hS hA hAe hX hl
  have hts : ∀ w ∈ lw_ok, w.before _ s = true := fun w h => hts0 w (List.mem_cons_of_mem _ h)
  have hown : s.vm.findClass R_B = some m.cls := hown
  have hP : va_P D cls (bsW ad cL cI nv nb nt nf na lv nm vw vp tw ab am w) s.heap := hP
  have hl : lv_has ls 2 [(0, .ref (ad 0)), (1, .int (nI wd))] := hl
  obtain ⟨o_nv, o_nb, o_nt, o_nf, o_na, o_lv, o_nm, o_vw, o_tw, o_am, o_ab⟩ := id hok
  refine lv_iload_n hx hb d_B_variable_0 rfl (lv_at hl 1 rfl) ?_
  refine fn_S (ws' := (bsW ad cL cI nv nb nt nf na lv nm vw vp tw ab am w)) (w1 := (nilW)) (wc := (nilW)) (wr := [(ad 0, .inr (0, [.ref (ad 2), .ref (ad 1), .ref (ad 4), .ref (ad 5), .int (nI nv), .int (nI nb), .ref (ad 6), .int (nI nt), .int (nI nf), .ref (ad 7), .int (nI na), .int (nI lv), .ref (ad 8), .int (nI nm)])), (ad 1, .inr (2, [.ref (ad 2)])), (ad 2, .inr (1, [.ref (ad 3)])), (ad 3, .inl (cL, 4160, .inr (.inl w))), (ad 4, .inl (cI, 6, .inl (fun j => nI (vw j)))), (ad 5, .inl (cI, 6, .inl (fun j => nI (vp j)))), (ad 6, .inl (cI, 50, .inl (fun j => nI (tw j)))), (ad 7, .inl (cI, 6, .inl (fun j => nI (ab j)))), (ad 8, .inl (cI, 8, .inl (fun j => nI (am j))))]) ⟨hx, hb, hml, hown, hts⟩ (c_B_isWidth l D (nI wd)) ⟨callB_of 1 hts (gW wd_146) rfl rfl rfl (hts _ wd_1) (hts _ wd_144) hd_B_isWidth ⟨Nat.le_of_ble_eq_true rfl, Nat.le_of_ble_eq_true rfl⟩, hts _ wd_145⟩ XT_ok (fun _ _ _ => trivial) hK hP hD hS hA [] [] [0, 1, 2, 3, 4, 5, 6, 7, 8] [0, 1, 2, 3, 4, 5, 6, 7, 8] rfl rfl rfl rfl rfl (by decide) rfl rfl rfl hl.1 rfl (Nat.le_of_ble_eq_true rfl) d_B_variable_1 ⟨Nat.zero_le _, Nat.zero_le _⟩ (st1 := [.int (bI (wdB (nI wd)))]) rfl (fun H locs hP hD hS => ?_)
  refine b_if_ne (tgt := 15) hx hb d_B_variable_4 (by decide) (fun c_4 => ?_) (fun c_4 => ?_)
  · refine lv_aload_n hx hb d_B_variable_15 rfl (lv_at hl 0 rfl) ?_
    refine va_get (D := D) (ci := 0) (v := .int (nI nv)) (C := R_B) (T := F_B) (N := 14) hx hb hts in_B hown hK hP 0 rfl rfl 4 (by decide) (hts _ wd_51) (fun _ h9 => h9) rfl d_B_variable_16 ?_
    refine lv_bipush (v := nI 6) hx hb d_B_variable_19 (by decide) ?_
    refine z_icmp_ge (tgt := 35) hx hb (nI_toInt (by omega)) (nI_toInt (by omega)) d_B_variable_21 (by decide) (fun c_21 => ?_) (fun c_21 => ?_)
    · exact absurd c_21 (by omega)
    · refine lv_aload_n hx hb d_B_variable_24 rfl (lv_at hl 0 rfl) ?_
      refine va_get (D := D) (ci := 0) (v := .int (nI nb)) (C := R_B) (T := F_B) (N := 14) hx hb hts in_B hown hK hP 0 rfl rfl 5 (by decide) (hts _ wd_52) (fun _ h9 => h9) rfl d_B_variable_25 ?_
      refine lv_iload_n hx hb d_B_variable_28 rfl (lv_at hl 1 rfl) ?_
      refine n_add hx hb d_B_variable_29 ?_
      refine lv_bipush (v := nI 10) hx hb d_B_variable_30 (by decide) ?_
      refine z_icmp_le (tgt := 43) hx hb (nI_toInt (by omega)) (nI_toInt (by omega)) d_B_variable_32 (by decide) (fun c_32 => ?_) (fun c_32 => ?_)
      · refine lv_aload_n hx hb d_B_variable_43 rfl (lv_at hl 0 rfl) ?_
        refine lv_dup hx hb d_B_variable_44 rfl ?_
        refine va_get (D := D) (ci := 0) (v := .int (nI nb)) (C := R_B) (T := F_B) (N := 14) hx hb hts in_B hown hK hP 0 rfl rfl 5 (by decide) (hts _ wd_52) (fun _ h9 => h9) rfl d_B_variable_45 ?_
        refine lv_iload_n hx hb d_B_variable_48 rfl (lv_at hl 1 rfl) ?_
        refine n_add hx hb d_B_variable_49 ?_
        refine va_put (D := D) (ci := 0) (v := .int (nI (nb + wd))) (ty := .int) (C := R_B) (T := F_B) (N := 14) hx hb hts in_B t_B tok_B nm_B hown hK hP hD hS 0 rfl rfl 5 (by decide) (hts _ wd_52) (fun _ h9 => h9) rfl (by decide +kernel) rfl rfl (Nat.le_of_ble_eq_true rfl) d_B_variable_50 (fun H locs hP hD hS => ?_)
        have hP : va_P D cls (bsW ad cL cI nv (nb + wd) nt nf na lv nm vw vp tw ab am w) H := hP
        have hD : va_D A (bsW ad cL cI nv (nb + wd) nt nf na lv nm vw vp tw ab am w) := hD
        refine lv_aload_n hx hb d_B_variable_53 rfl (lv_at hl 0 rfl) ?_
        refine va_get (D := D) (ci := 0) (v := .ref (ad 4)) (C := R_B) (T := F_B) (N := 14) hx hb hts in_B hown hK hP 0 rfl rfl 2 (by decide) (hts _ wd_49) (fun _ h9 => h9) rfl d_B_variable_54 ?_
        refine lv_aload_n hx hb d_B_variable_57 rfl (lv_at hl 0 rfl) ?_
        refine va_get (D := D) (ci := 0) (v := .int (nI nv)) (C := R_B) (T := F_B) (N := 14) hx hb hts in_B hown hK hP 0 rfl rfl 4 (by decide) (hts _ wd_51) (fun _ h9 => h9) rfl d_B_variable_58 ?_
        refine lv_iload_n hx hb d_B_variable_61 rfl (lv_at hl 1 rfl) ?_
        refine n_iast hx hb hK hP hD hS 4 1 rfl rfl (i := nv) (by omega) (by omega) (updN_I _ _ _) d_B_variable_62 (ws' := (bsW ad cL cI nv (nb + wd) nt nf na lv nm (updN vw nv wd) vp tw ab am w)) rfl (fun H locs hP hD hS => ?_)
        refine lv_aload_n hx hb d_B_variable_63 rfl (lv_at hl 0 rfl) ?_
        refine va_get (D := D) (ci := 0) (v := .ref (ad 5)) (C := R_B) (T := F_B) (N := 14) hx hb hts in_B hown hK hP 0 rfl rfl 3 (by decide) (hts _ wd_50) (fun _ h9 => h9) rfl d_B_variable_64 ?_
        refine lv_aload_n hx hb d_B_variable_67 rfl (lv_at hl 0 rfl) ?_
        refine va_get (D := D) (ci := 0) (v := .int (nI nv)) (C := R_B) (T := F_B) (N := 14) hx hb hts in_B hown hK hP 0 rfl rfl 4 (by decide) (hts _ wd_51) (fun _ h9 => h9) rfl d_B_variable_68 ?_
        refine lv_bipush (v := nI 10) hx hb d_B_variable_71 (by decide) ?_
        refine lv_aload_n hx hb d_B_variable_73 rfl (lv_at hl 0 rfl) ?_
        refine va_get (D := D) (ci := 0) (v := .int (nI (nb + wd))) (C := R_B) (T := F_B) (N := 14) hx hb hts in_B hown hK hP 0 rfl rfl 5 (by decide) (hts _ wd_52) (fun _ h9 => h9) rfl d_B_variable_74 ?_
        refine n_sub hx hb (by omega) d_B_variable_77 ?_
        refine n_iast hx hb hK hP hD hS 5 1 rfl rfl (i := nv) (by omega) (by omega) (updN_I _ _ _) d_B_variable_78 (ws' := (bsW ad cL cI nv (nb + wd) nt nf na lv nm (updN vw nv wd) (updN vp nv (10 - (nb + wd))) tw ab am w)) rfl (fun H locs hP hD hS => ?_)
        refine lv_aload_n hx hb d_B_variable_79 rfl (lv_at hl 0 rfl) ?_
        refine lv_dup hx hb d_B_variable_80 rfl ?_
        refine va_get (D := D) (ci := 0) (v := .int (nI nv)) (C := R_B) (T := F_B) (N := 14) hx hb hts in_B hown hK hP 0 rfl rfl 4 (by decide) (hts _ wd_51) (fun _ h9 => h9) rfl d_B_variable_81 ?_
        refine lv_iconst (v := nI 1) hx hb d_B_variable_84 (by decide) ?_
        refine n_add hx hb d_B_variable_85 ?_
        refine va_put (D := D) (ci := 0) (v := .int (nI (nv + 1))) (ty := .int) (C := R_B) (T := F_B) (N := 14) hx hb hts in_B t_B tok_B nm_B hown hK hP hD hS 0 rfl rfl 4 (by decide) (hts _ wd_51) (fun _ h9 => h9) rfl (by decide +kernel) rfl rfl (Nat.le_of_ble_eq_true rfl) d_B_variable_86 (fun H locs hP hD hS => ?_)
        have hP : va_P D cls (bsW ad cL cI (nv + 1) (nb + wd) nt nf na lv nm (updN vw nv wd) (updN vp nv (10 - (nb + wd))) tw ab am w) H := hP
        have hD : va_D A (bsW ad cL cI (nv + 1) (nb + wd) nt nf na lv nm (updN vw nv wd) (updN vp nv (10 - (nb + wd))) tw ab am w) := hD
        refine lv_aload_n hx hb d_B_variable_89 rfl (lv_at hl 0 rfl) ?_
        refine va_get (D := D) (ci := 0) (v := .int (nI (nv + 1))) (C := R_B) (T := F_B) (N := 14) hx hb hts in_B hown hK hP 0 rfl rfl 4 (by decide) (hts _ wd_51) (fun _ h9 => h9) rfl d_B_variable_90 ?_
        refine lv_iconst (v := nI 1) hx hb d_B_variable_93 (by decide) ?_
        refine n_sub hx hb (by omega) d_B_variable_94 ?_
        exact fn_iret hx hb hr hlocks hAe hK hP hD hS (by rw [Nat.add_sub_cancel]) d_B_variable_95
      · exact absurd c_32 (by omega)
  · exact absurd (show wdB (nI wd) = true by rw [wdB_I (by omega)]; exact decide_eq_true ⟨h1, h4⟩) (by rw [c_4]; decide)
set_option maxHeartbeats 4000000 in
set_option maxRecDepth 100000 in
theorem c_B_term_0 (l : Launch) (D : va_G) (ad : Nat → Nat) (cL cI : ClassId) (nv nb nt nf na lv nm : Nat) (vw vp tw ab am : Nat → Nat) (w : Nat → Int64) (hok : Bok nv nb nt nf na lv nm vw vp tw ab am) (ka : Nat) (kb kc : Int32) (ha : ka < 2 ^ 31) (wd : Nat) (hw : pW nv nt nf vw tw (nI 0) (nI ka) kb kc = wd) (h1 : 1 ≤ wd) (h4 : wd ≤ 4) (hnt : nt < 50)  : Fn l y_B_term (wk y_B_term b_B_term 6 (some .int)) rm_B_term D cls [(cL, .long), (cI, .int)] [.ref (ad 0), .int (nI 0), .int (nI ka), .int kb, .int kc] (bsW ad cL cI nv nb nt nf na lv nm vw vp tw ab am w) XT (some (.int (nI nt))) (bsW ad cL cI nv nb (nt + 1) nf na lv nm vw vp (updN tw nt wd) ab am (oNum (50 + nt * 4) ka wd w)) := by
  refine Fn.of (by decide) rfl (Nat.le_of_ble_eq_true rfl) ?_
  intro p e s m below meth c A ls hx hb hml hr hts0 hown hlocks hnm hP hK hD hS hA hAe hX hl
  have hts : ∀ w ∈ lw_ok, w.before _ s = true := fun w h => hts0 w (List.mem_cons_of_mem _ h)
  have hown : s.vm.findClass R_B = some m.cls := hown
  have hP : va_P D cls (bsW ad cL cI nv nb nt nf na lv nm vw vp tw ab am w) s.heap := hP
  have hl : lv_has ls 6 [(0, .ref (ad 0)), (1, .int (nI 0)), (2, .int (nI ka)), (3, .int kb), (4, .int kc)] := hl
  obtain ⟨o_nv, o_nb, o_nt, o_nf, o_na, o_lv, o_nm, o_vw, o_tw, o_am, o_ab⟩ := id hok
  refine lv_aload_n hx hb d_B_term_0 rfl (lv_at hl 0 rfl) ?_
  refine lv_iload_n hx hb d_B_term_1 rfl (lv_at hl 1 rfl) ?_
  refine lv_iload_n hx hb d_B_term_2 rfl (lv_at hl 2 rfl) ?_
  refine lv_iload_n hx hb d_B_term_3 rfl (lv_at hl 3 rfl) ?_
  refine lv_iload hx hb d_B_term_4 (lv_at hl 4 rfl) ?_
  refine fn_V (ws' := (bsW ad cL cI nv nb nt nf na lv nm vw vp tw ab am w)) (w1 := (bsW ad cL cI nv nb nt nf na lv nm vw vp tw ab am w)) (wc := (bsW ad cL cI nv nb nt nf na lv nm vw vp tw ab am w)) (wr := []) ⟨hx, hb, hml, hown, hts⟩ (c_B_widthToBuild l D ad cL cI nv nb nt nf na lv nm vw vp tw ab am w hok (nI 0) (nI ka) kb kc) ⟨callB_of 4 hts (gW wd_236) rfl rfl rfl (hts _ wd_1) (hts _ wd_233) hd_B_widthToBuild ⟨Nat.le_of_ble_eq_true rfl, Nat.le_of_ble_eq_true rfl⟩, hts _ wd_235, hts _ wd_p6⟩ XT_ok (fun _ _ _ => trivial) hK hP hD hS hA 0 0 rfl rfl rfl [0, 1] [0, 1, 2, 3, 4, 5, 6, 7, 8] [] [0, 1, 2, 3, 4, 5, 6, 7, 8] rfl rfl rfl rfl rfl (by decide) rfl rfl rfl hl.1 rfl (Nat.le_of_ble_eq_true rfl) d_B_term_6 ⟨Nat.zero_le _, Nat.zero_le _⟩ (st1 := [.int (nI (pW nv nt nf vw tw (nI 0) (nI ka) kb kc))]) rfl (fun H locs hP hD hS => ?_)
  rw [hw]
  refine lv_istore (lv' := [(5, .int (nI wd)), (0, .ref (ad 0)), (1, .int (nI 0)), (2, .int (nI ka)), (3, .int kb), (4, .int kc)]) hx hb d_B_term_9 hl (by decide) rfl (fun ls hl => ?_)
  refine lv_iload hx hb d_B_term_11 (lv_at hl 0 rfl) ?_
  refine z_if_ne (tgt := 24) hx hb (nI_toInt (by omega)) d_B_term_13 (by decide) (fun c_13 => ?_) (fun c_13 => ?_)
  · refine lv_aload_n hx hb d_B_term_24 rfl (lv_at hl 1 rfl) ?_
    refine va_get (D := D) (ci := 0) (v := .int (nI nt)) (C := R_B) (T := F_B) (N := 14) hx hb hts in_B hown hK hP 0 rfl rfl 7 (by decide) (hts _ wd_54) (fun _ h9 => h9) rfl d_B_term_25 ?_
    refine lv_bipush (v := nI 50) hx hb d_B_term_28 (by decide) ?_
    refine z_icmp_lt (tgt := 41) hx hb (nI_toInt (by omega)) (nI_toInt (by omega)) d_B_term_30 (by decide) (fun c_30 => ?_) (fun c_30 => ?_)
    · refine lv_aload_n hx hb d_B_term_41 rfl (lv_at hl 1 rfl) ?_
      refine va_get (D := D) (ci := 0) (v := .ref (ad 6)) (C := R_B) (T := F_B) (N := 14) hx hb hts in_B hown hK hP 0 rfl rfl 6 (by decide) (hts _ wd_53) (fun _ h9 => h9) rfl d_B_term_42 ?_
      refine lv_aload_n hx hb d_B_term_45 rfl (lv_at hl 1 rfl) ?_
      refine va_get (D := D) (ci := 0) (v := .int (nI nt)) (C := R_B) (T := F_B) (N := 14) hx hb hts in_B hown hK hP 0 rfl rfl 7 (by decide) (hts _ wd_54) (fun _ h9 => h9) rfl d_B_term_46 ?_
      refine lv_iload hx hb d_B_term_49 (lv_at hl 0 rfl) ?_
      refine n_iast hx hb hK hP hD hS 6 1 rfl rfl (i := nt) (by omega) (by omega) (updN_I _ _ _) d_B_term_51 (ws' := (bsW ad cL cI nv nb nt nf na lv nm vw vp (updN tw nt wd) ab am w)) rfl (fun H locs hP hD hS => ?_)
      refine lv_iload_n hx hb d_B_term_52 rfl (lv_at hl 2 rfl) ?_
      refine lv_iconst (v := nI 4) hx hb d_B_term_53 (by decide) ?_
      refine z_icmp_gt (tgt := 67) hx hb (nI_toInt (by omega)) (nI_toInt (by omega)) d_B_term_54 (by decide) (fun c_54 => ?_) (fun c_54 => ?_)
      · exact absurd c_54 (by omega)
      · refine lv_aload_n hx hb d_B_term_57 rfl (lv_at hl 1 rfl) ?_
        refine lv_iload_n hx hb d_B_term_58 rfl (lv_at hl 2 rfl) ?_
        refine lv_iload_n hx hb d_B_term_59 rfl (lv_at hl 3 rfl) ?_
        refine lv_iload_n hx hb d_B_term_60 rfl (lv_at hl 4 rfl) ?_
        refine fn_V (ws' := (bsW ad cL cI nv nb nt nf na lv nm vw vp (updN tw nt wd) ab am (oNum (50 + nt * 4) ka wd w))) (w1 := (bsW ad cL cI nv nb nt nf na lv nm vw vp (updN tw nt wd) ab am (oNum (50 + nt * 4) ka wd w))) (wc := (bsW ad cL cI nv nb nt nf na lv nm vw vp (updN tw nt wd) ab am w)) (wr := []) ⟨hx, hb, hml, hown, hts⟩ (c_B_buildNumeric_0 l D ad cL cI nv nb nt nf na lv nm vw vp (updN tw nt wd) ab am w (Bok_tw hok wd) ka kb ha wd (updN_self _ _ _) h1 h4 hnt) ⟨callB_of 3 hts (gW wd_264) rfl rfl rfl (hts _ wd_1) (hts _ wd_261) hd_B_buildNumeric ⟨Nat.le_of_ble_eq_true rfl, Nat.le_of_ble_eq_true rfl⟩, hts _ wd_263, hts _ wd_p13⟩ XT_ok (fun _ _ _ => trivial) hK hP hD hS hA 0 0 rfl rfl rfl [0, 1] [0, 1, 2, 3, 4, 5, 6, 7, 8] [] [0, 1, 2, 3, 4, 5, 6, 7, 8] rfl rfl rfl rfl rfl (by decide) rfl rfl rfl hl.1 rfl (Nat.le_of_ble_eq_true rfl) d_B_term_61 ⟨Nat.zero_le _, Nat.zero_le _⟩ (st1 := []) rfl (fun H locs hP hD hS => ?_)
        refine lv_goto (tgt := 92) hx hb d_B_term_64 (by decide) ?_
        refine lv_aload_n hx hb d_B_term_92 rfl (lv_at hl 1 rfl) ?_
        refine lv_dup hx hb d_B_term_93 rfl ?_
        refine va_get (D := D) (ci := 0) (v := .int (nI nt)) (C := R_B) (T := F_B) (N := 14) hx hb hts in_B hown hK hP 0 rfl rfl 7 (by decide) (hts _ wd_54) (fun _ h9 => h9) rfl d_B_term_94 ?_
        refine lv_iconst (v := nI 1) hx hb d_B_term_97 (by decide) ?_
        refine n_add hx hb d_B_term_98 ?_
        refine va_put (D := D) (ci := 0) (v := .int (nI (nt + 1))) (ty := .int) (C := R_B) (T := F_B) (N := 14) hx hb hts in_B t_B tok_B nm_B hown hK hP hD hS 0 rfl rfl 7 (by decide) (hts _ wd_54) (fun _ h9 => h9) rfl (by decide +kernel) rfl rfl (Nat.le_of_ble_eq_true rfl) d_B_term_99 (fun H locs hP hD hS => ?_)
        have hP : va_P D cls (bsW ad cL cI nv nb (nt + 1) nf na lv nm vw vp (updN tw nt wd) ab am (oNum (50 + nt * 4) ka wd w)) H := hP
        have hD : va_D A (bsW ad cL cI nv nb (nt + 1) nf na lv nm vw vp (updN tw nt wd) ab am (oNum (50 + nt * 4) ka wd w)) := hD
        refine lv_aload_n hx hb d_B_term_102 rfl (lv_at hl 1 rfl) ?_
        refine va_get (D := D) (ci := 0) (v := .int (nI (nt + 1))) (C := R_B) (T := F_B) (N := 14) hx hb hts in_B hown hK hP 0 rfl rfl 7 (by decide) (hts _ wd_54) (fun _ h9 => h9) rfl d_B_term_103 ?_
        refine lv_iconst (v := nI 1) hx hb d_B_term_106 (by decide) ?_
        refine n_sub hx hb (by omega) d_B_term_107 ?_
        exact fn_iret hx hb hr hlocks hAe hK hP hD hS (by rw [Nat.add_sub_cancel]) d_B_term_108
    · exact absurd c_30 (by omega)
  · exact absurd c_13 (by omega)
set_option maxHeartbeats 4000000 in
set_option maxRecDepth 100000 in
theorem c_B_term_1 (l : Launch) (D : va_G) (ad : Nat → Nat) (cL cI : ClassId) (nv nb nt nf na lv nm : Nat) (vw vp tw ab am : Nat → Nat) (w : Nat → Int64) (hok : Bok nv nb nt nf na lv nm vw vp tw ab am) (n0 t0 : Nat) (u : ∀ i, i < 9 → n0 ≤ ad i) (ka : Nat) (kb kc : Int32) (ha : ka < nv) (wd : Nat) (hw : pW nv nt nf vw tw (nI 1) (nI ka) kb kc = wd) (h1 : 1 ≤ wd) (h4 : wd ≤ 4) (hnt : nt < 50)  : Fn l y_B_term (wk y_B_term b_B_term 6 (some .int)) rm_B_term D cls [(cL, .long), (cI, .int)] [.ref (ad 0), .int (nI 1), .int (nI ka), .int kb, .int kc] (bsW ad cL cI nv nb nt nf na lv nm vw vp tw ab am w) (Zt n0 t0) (some (.int (nI nt))) (bsW ad cL cI nv nb (nt + 1) nf na lv nm vw vp (updN tw nt wd) ab am (oVar (50 + nt * 4) (vp ka) (vw ka) w)) := by
  refine Fn.of (by decide) rfl (Nat.le_of_ble_eq_true rfl) ?_
  intro p e s m below meth c A ls hx hb hml hr hts0 hown hlocks hnm hP hK hD hS hA hAe hX hl
  have hts : ∀ w ∈ lw_ok, w.before _ s = true := fun w h => hts0 w (List.mem_cons_of_mem _ h)
  have hown : s.vm.findClass R_B = some m.cls := hown
  have hP : va_P D cls (bsW ad cL cI nv nb nt nf na lv nm vw vp tw ab am w) s.heap := hP
  have hl : lv_has ls 6 [(0, .ref (ad 0)), (1, .int (nI 1)), (2, .int (nI ka)), (3, .int kb), (4, .int kc)] := hl
  obtain ⟨o_nv, o_nb, o_nt, o_nf, o_na, o_lv, o_nm, o_vw, o_tw, o_am, o_ab⟩ := id hok
  have hAn : ∀ q, A q → n0 ≤ q := fun q h => by rw [hAe] at h; exact Zt_AB hX u h
  refine lv_aload_n hx hb d_B_term_0 rfl (lv_at hl 0 rfl) ?_
  refine lv_iload_n hx hb d_B_term_1 rfl (lv_at hl 1 rfl) ?_
  refine lv_iload_n hx hb d_B_term_2 rfl (lv_at hl 2 rfl) ?_
  refine lv_iload_n hx hb d_B_term_3 rfl (lv_at hl 3 rfl) ?_
  refine lv_iload hx hb d_B_term_4 (lv_at hl 4 rfl) ?_
  refine fn_V (ws' := (bsW ad cL cI nv nb nt nf na lv nm vw vp tw ab am w)) (w1 := (bsW ad cL cI nv nb nt nf na lv nm vw vp tw ab am w)) (wc := (bsW ad cL cI nv nb nt nf na lv nm vw vp tw ab am w)) (wr := []) ⟨hx, hb, hml, hown, hts⟩ (c_B_widthToBuild l D ad cL cI nv nb nt nf na lv nm vw vp tw ab am w hok (nI 1) (nI ka) kb kc) ⟨callB_of 4 hts (gW wd_236) rfl rfl rfl (hts _ wd_1) (hts _ wd_233) hd_B_widthToBuild ⟨Nat.le_of_ble_eq_true rfl, Nat.le_of_ble_eq_true rfl⟩, hts _ wd_235, hts _ wd_p6⟩ XT_ok (fun _ _ _ => trivial) hK hP hD hS hA 0 0 rfl rfl rfl [0, 1] [0, 1, 2, 3, 4, 5, 6, 7, 8] [] [0, 1, 2, 3, 4, 5, 6, 7, 8] rfl rfl rfl rfl rfl (by decide) rfl rfl rfl hl.1 rfl (Nat.le_of_ble_eq_true rfl) d_B_term_6 ⟨Nat.zero_le _, Nat.zero_le _⟩ (st1 := [.int (nI (pW nv nt nf vw tw (nI 1) (nI ka) kb kc))]) rfl (fun H locs hP hD hS => ?_)
  rw [hw]
  refine lv_istore (lv' := [(5, .int (nI wd)), (0, .ref (ad 0)), (1, .int (nI 1)), (2, .int (nI ka)), (3, .int kb), (4, .int kc)]) hx hb d_B_term_9 hl (by decide) rfl (fun ls hl => ?_)
  refine lv_iload hx hb d_B_term_11 (lv_at hl 0 rfl) ?_
  refine z_if_ne (tgt := 24) hx hb (nI_toInt (by omega)) d_B_term_13 (by decide) (fun c_13 => ?_) (fun c_13 => ?_)
  · refine lv_aload_n hx hb d_B_term_24 rfl (lv_at hl 1 rfl) ?_
    refine va_get (D := D) (ci := 0) (v := .int (nI nt)) (C := R_B) (T := F_B) (N := 14) hx hb hts in_B hown hK hP 0 rfl rfl 7 (by decide) (hts _ wd_54) (fun _ h9 => h9) rfl d_B_term_25 ?_
    refine lv_bipush (v := nI 50) hx hb d_B_term_28 (by decide) ?_
    refine z_icmp_lt (tgt := 41) hx hb (nI_toInt (by omega)) (nI_toInt (by omega)) d_B_term_30 (by decide) (fun c_30 => ?_) (fun c_30 => ?_)
    · refine lv_aload_n hx hb d_B_term_41 rfl (lv_at hl 1 rfl) ?_
      refine va_get (D := D) (ci := 0) (v := .ref (ad 6)) (C := R_B) (T := F_B) (N := 14) hx hb hts in_B hown hK hP 0 rfl rfl 6 (by decide) (hts _ wd_53) (fun _ h9 => h9) rfl d_B_term_42 ?_
      refine lv_aload_n hx hb d_B_term_45 rfl (lv_at hl 1 rfl) ?_
      refine va_get (D := D) (ci := 0) (v := .int (nI nt)) (C := R_B) (T := F_B) (N := 14) hx hb hts in_B hown hK hP 0 rfl rfl 7 (by decide) (hts _ wd_54) (fun _ h9 => h9) rfl d_B_term_46 ?_
      refine lv_iload hx hb d_B_term_49 (lv_at hl 0 rfl) ?_
      refine n_iast hx hb hK hP hD hS 6 1 rfl rfl (i := nt) (by omega) (by omega) (updN_I _ _ _) d_B_term_51 (ws' := (bsW ad cL cI nv nb nt nf na lv nm vw vp (updN tw nt wd) ab am w)) rfl (fun H locs hP hD hS => ?_)
      refine lv_iload_n hx hb d_B_term_52 rfl (lv_at hl 2 rfl) ?_
      refine lv_iconst (v := nI 4) hx hb d_B_term_53 (by decide) ?_
      refine z_icmp_gt (tgt := 67) hx hb (nI_toInt (by omega)) (nI_toInt (by omega)) d_B_term_54 (by decide) (fun c_54 => ?_) (fun c_54 => ?_)
      · exact absurd c_54 (by omega)
      · refine lv_aload_n hx hb d_B_term_57 rfl (lv_at hl 1 rfl) ?_
        refine lv_iload_n hx hb d_B_term_58 rfl (lv_at hl 2 rfl) ?_
        refine lv_iload_n hx hb d_B_term_59 rfl (lv_at hl 3 rfl) ?_
        refine lv_iload_n hx hb d_B_term_60 rfl (lv_at hl 4 rfl) ?_
        refine fn_V (ws' := (bsW ad cL cI nv nb nt nf na lv nm vw vp (updN tw nt wd) ab am (oVar (50 + nt * 4) (vp ka) (vw ka) w))) (w1 := (bsW ad cL cI nv nb nt nf na lv nm vw vp (updN tw nt wd) ab am (oVar (50 + nt * 4) (vp ka) (vw ka) w))) (wc := (bsW ad cL cI nv nb nt nf na lv nm vw vp (updN tw nt wd) ab am w)) (wr := []) ⟨hx, hb, hml, hown, hts⟩ (c_B_buildNumeric_1 l D ad cL cI nv nb nt nf na lv nm vw vp (updN tw nt wd) ab am w (Bok_tw hok wd) n0 t0 u ka kb ha wd (updN_self _ _ _) h1 h4 hnt) ⟨callB_of 3 hts (gW wd_264) rfl rfl rfl (hts _ wd_1) (hts _ wd_261) hd_B_buildNumeric ⟨Nat.le_of_ble_eq_true rfl, Nat.le_of_ble_eq_true rfl⟩, hts _ wd_263, hts _ wd_p13⟩ Zt_ok (Zt_kept hX hS hAn) hK hP hD hS hA 0 0 rfl rfl rfl [0, 1] [0, 1, 2, 3, 4, 5, 6, 7, 8] [] [0, 1, 2, 3, 4, 5, 6, 7, 8] rfl rfl rfl rfl rfl (by decide) rfl rfl rfl hl.1 rfl (Nat.le_of_ble_eq_true rfl) d_B_term_61 ⟨Nat.zero_le _, Nat.zero_le _⟩ (st1 := []) rfl (fun H locs hP hD hS => ?_)
        refine lv_goto (tgt := 92) hx hb d_B_term_64 (by decide) ?_
        refine lv_aload_n hx hb d_B_term_92 rfl (lv_at hl 1 rfl) ?_
        refine lv_dup hx hb d_B_term_93 rfl ?_
        refine va_get (D := D) (ci := 0) (v := .int (nI nt)) (C := R_B) (T := F_B) (N := 14) hx hb hts in_B hown hK hP 0 rfl rfl 7 (by decide) (hts _ wd_54) (fun _ h9 => h9) rfl d_B_term_94 ?_
        refine lv_iconst (v := nI 1) hx hb d_B_term_97 (by decide) ?_
        refine n_add hx hb d_B_term_98 ?_
        refine va_put (D := D) (ci := 0) (v := .int (nI (nt + 1))) (ty := .int) (C := R_B) (T := F_B) (N := 14) hx hb hts in_B t_B tok_B nm_B hown hK hP hD hS 0 rfl rfl 7 (by decide) (hts _ wd_54) (fun _ h9 => h9) rfl (by decide +kernel) rfl rfl (Nat.le_of_ble_eq_true rfl) d_B_term_99 (fun H locs hP hD hS => ?_)
        have hP : va_P D cls (bsW ad cL cI nv nb (nt + 1) nf na lv nm vw vp (updN tw nt wd) ab am (oVar (50 + nt * 4) (vp ka) (vw ka) w)) H := hP
        have hD : va_D A (bsW ad cL cI nv nb (nt + 1) nf na lv nm vw vp (updN tw nt wd) ab am (oVar (50 + nt * 4) (vp ka) (vw ka) w)) := hD
        refine lv_aload_n hx hb d_B_term_102 rfl (lv_at hl 1 rfl) ?_
        refine va_get (D := D) (ci := 0) (v := .int (nI (nt + 1))) (C := R_B) (T := F_B) (N := 14) hx hb hts in_B hown hK hP 0 rfl rfl 7 (by decide) (hts _ wd_54) (fun _ h9 => h9) rfl d_B_term_103 ?_
        refine lv_iconst (v := nI 1) hx hb d_B_term_106 (by decide) ?_
        refine n_sub hx hb (by omega) d_B_term_107 ?_
        exact fn_iret hx hb hr hlocks hAe hK hP hD hS (by rw [Nat.add_sub_cancel]) d_B_term_108
    · exact absurd c_30 (by omega)
  · exact absurd c_13 (by omega)
set_option maxHeartbeats 4000000 in
set_option maxRecDepth 100000 in
theorem c_B_term_2 (l : Launch) (D : va_G) (ad : Nat → Nat) (cL cI : ClassId) (nv nb nt nf na lv nm : Nat) (vw vp tw ab am : Nat → Nat) (w : Nat → Int64) (hok : Bok nv nb nt nf na lv nm vw vp tw ab am) (ka kb : Nat) (kc : Int32) (ha : ka < nt) (hb2 : kb < nt) (wd : Nat) (hw : pW nv nt nf vw tw (nI 2) (nI ka) (nI kb) kc = wd) (h1 : 1 ≤ wd) (h4 : wd ≤ 4) (hnt : nt < 50)  : Fn l y_B_term (wk y_B_term b_B_term 6 (some .int)) rm_B_term D cls [(cL, .long), (cI, .int)] [.ref (ad 0), .int (nI 2), .int (nI ka), .int (nI kb), .int kc] (bsW ad cL cI nv nb nt nf na lv nm vw vp tw ab am w) XT (some (.int (nI nt))) (bsW ad cL cI nv nb (nt + 1) nf na lv nm vw vp (updN tw nt wd) ab am (cSum (50 + nt * 4) (50 + ka * 4) (50 + kb * 4) wd w)) := by
  refine Fn.of (by decide) rfl (Nat.le_of_ble_eq_true rfl) ?_
  intro p e s m below meth c A ls hx hb hml hr hts0 hown hlocks hnm hP hK hD hS hA hAe hX hl
  have hts : ∀ w ∈ lw_ok, w.before _ s = true := fun w h => hts0 w (List.mem_cons_of_mem _ h)
  have hown : s.vm.findClass R_B = some m.cls := hown
  have hP : va_P D cls (bsW ad cL cI nv nb nt nf na lv nm vw vp tw ab am w) s.heap := hP
  have hl : lv_has ls 6 [(0, .ref (ad 0)), (1, .int (nI 2)), (2, .int (nI ka)), (3, .int (nI kb)), (4, .int kc)] := hl
  obtain ⟨o_nv, o_nb, o_nt, o_nf, o_na, o_lv, o_nm, o_vw, o_tw, o_am, o_ab⟩ := id hok
  refine lv_aload_n hx hb d_B_term_0 rfl (lv_at hl 0 rfl) ?_
  refine lv_iload_n hx hb d_B_term_1 rfl (lv_at hl 1 rfl) ?_
  refine lv_iload_n hx hb d_B_term_2 rfl (lv_at hl 2 rfl) ?_
  refine lv_iload_n hx hb d_B_term_3 rfl (lv_at hl 3 rfl) ?_
  refine lv_iload hx hb d_B_term_4 (lv_at hl 4 rfl) ?_
  refine fn_V (ws' := (bsW ad cL cI nv nb nt nf na lv nm vw vp tw ab am w)) (w1 := (bsW ad cL cI nv nb nt nf na lv nm vw vp tw ab am w)) (wc := (bsW ad cL cI nv nb nt nf na lv nm vw vp tw ab am w)) (wr := []) ⟨hx, hb, hml, hown, hts⟩ (c_B_widthToBuild l D ad cL cI nv nb nt nf na lv nm vw vp tw ab am w hok (nI 2) (nI ka) (nI kb) kc) ⟨callB_of 4 hts (gW wd_236) rfl rfl rfl (hts _ wd_1) (hts _ wd_233) hd_B_widthToBuild ⟨Nat.le_of_ble_eq_true rfl, Nat.le_of_ble_eq_true rfl⟩, hts _ wd_235, hts _ wd_p6⟩ XT_ok (fun _ _ _ => trivial) hK hP hD hS hA 0 0 rfl rfl rfl [0, 1] [0, 1, 2, 3, 4, 5, 6, 7, 8] [] [0, 1, 2, 3, 4, 5, 6, 7, 8] rfl rfl rfl rfl rfl (by decide) rfl rfl rfl hl.1 rfl (Nat.le_of_ble_eq_true rfl) d_B_term_6 ⟨Nat.zero_le _, Nat.zero_le _⟩ (st1 := [.int (nI (pW nv nt nf vw tw (nI 2) (nI ka) (nI kb) kc))]) rfl (fun H locs hP hD hS => ?_)
  rw [hw]
  refine lv_istore (lv' := [(5, .int (nI wd)), (0, .ref (ad 0)), (1, .int (nI 2)), (2, .int (nI ka)), (3, .int (nI kb)), (4, .int kc)]) hx hb d_B_term_9 hl (by decide) rfl (fun ls hl => ?_)
  refine lv_iload hx hb d_B_term_11 (lv_at hl 0 rfl) ?_
  refine z_if_ne (tgt := 24) hx hb (nI_toInt (by omega)) d_B_term_13 (by decide) (fun c_13 => ?_) (fun c_13 => ?_)
  · refine lv_aload_n hx hb d_B_term_24 rfl (lv_at hl 1 rfl) ?_
    refine va_get (D := D) (ci := 0) (v := .int (nI nt)) (C := R_B) (T := F_B) (N := 14) hx hb hts in_B hown hK hP 0 rfl rfl 7 (by decide) (hts _ wd_54) (fun _ h9 => h9) rfl d_B_term_25 ?_
    refine lv_bipush (v := nI 50) hx hb d_B_term_28 (by decide) ?_
    refine z_icmp_lt (tgt := 41) hx hb (nI_toInt (by omega)) (nI_toInt (by omega)) d_B_term_30 (by decide) (fun c_30 => ?_) (fun c_30 => ?_)
    · refine lv_aload_n hx hb d_B_term_41 rfl (lv_at hl 1 rfl) ?_
      refine va_get (D := D) (ci := 0) (v := .ref (ad 6)) (C := R_B) (T := F_B) (N := 14) hx hb hts in_B hown hK hP 0 rfl rfl 6 (by decide) (hts _ wd_53) (fun _ h9 => h9) rfl d_B_term_42 ?_
      refine lv_aload_n hx hb d_B_term_45 rfl (lv_at hl 1 rfl) ?_
      refine va_get (D := D) (ci := 0) (v := .int (nI nt)) (C := R_B) (T := F_B) (N := 14) hx hb hts in_B hown hK hP 0 rfl rfl 7 (by decide) (hts _ wd_54) (fun _ h9 => h9) rfl d_B_term_46 ?_
      refine lv_iload hx hb d_B_term_49 (lv_at hl 0 rfl) ?_
      refine n_iast hx hb hK hP hD hS 6 1 rfl rfl (i := nt) (by omega) (by omega) (updN_I _ _ _) d_B_term_51 (ws' := (bsW ad cL cI nv nb nt nf na lv nm vw vp (updN tw nt wd) ab am w)) rfl (fun H locs hP hD hS => ?_)
      refine lv_iload_n hx hb d_B_term_52 rfl (lv_at hl 2 rfl) ?_
      refine lv_iconst (v := nI 4) hx hb d_B_term_53 (by decide) ?_
      refine z_icmp_gt (tgt := 67) hx hb (nI_toInt (by omega)) (nI_toInt (by omega)) d_B_term_54 (by decide) (fun c_54 => ?_) (fun c_54 => ?_)
      · exact absurd c_54 (by omega)
      · refine lv_aload_n hx hb d_B_term_57 rfl (lv_at hl 1 rfl) ?_
        refine lv_iload_n hx hb d_B_term_58 rfl (lv_at hl 2 rfl) ?_
        refine lv_iload_n hx hb d_B_term_59 rfl (lv_at hl 3 rfl) ?_
        refine lv_iload_n hx hb d_B_term_60 rfl (lv_at hl 4 rfl) ?_
        refine fn_V (ws' := (bsW ad cL cI nv nb nt nf na lv nm vw vp (updN tw nt wd) ab am (cSum (50 + nt * 4) (50 + ka * 4) (50 + kb * 4) wd w))) (w1 := (bsW ad cL cI nv nb nt nf na lv nm vw vp (updN tw nt wd) ab am (cSum (50 + nt * 4) (50 + ka * 4) (50 + kb * 4) wd w))) (wc := (bsW ad cL cI nv nb nt nf na lv nm vw vp (updN tw nt wd) ab am w)) (wr := []) ⟨hx, hb, hml, hown, hts⟩ (c_B_buildNumeric_2 l D ad cL cI nv nb nt nf na lv nm vw vp (updN tw nt wd) ab am w (Bok_tw hok wd) ka kb ha hb2 wd (updN_self _ _ _) h1 h4 hnt) ⟨callB_of 3 hts (gW wd_264) rfl rfl rfl (hts _ wd_1) (hts _ wd_261) hd_B_buildNumeric ⟨Nat.le_of_ble_eq_true rfl, Nat.le_of_ble_eq_true rfl⟩, hts _ wd_263, hts _ wd_p13⟩ XT_ok (fun _ _ _ => trivial) hK hP hD hS hA 0 0 rfl rfl rfl [0, 1] [0, 1, 2, 3, 4, 5, 6, 7, 8] [] [0, 1, 2, 3, 4, 5, 6, 7, 8] rfl rfl rfl rfl rfl (by decide) rfl rfl rfl hl.1 rfl (Nat.le_of_ble_eq_true rfl) d_B_term_61 ⟨Nat.zero_le _, Nat.zero_le _⟩ (st1 := []) rfl (fun H locs hP hD hS => ?_)
        refine lv_goto (tgt := 92) hx hb d_B_term_64 (by decide) ?_
        refine lv_aload_n hx hb d_B_term_92 rfl (lv_at hl 1 rfl) ?_
        refine lv_dup hx hb d_B_term_93 rfl ?_
        refine va_get (D := D) (ci := 0) (v := .int (nI nt)) (C := R_B) (T := F_B) (N := 14) hx hb hts in_B hown hK hP 0 rfl rfl 7 (by decide) (hts _ wd_54) (fun _ h9 => h9) rfl d_B_term_94 ?_
        refine lv_iconst (v := nI 1) hx hb d_B_term_97 (by decide) ?_
        refine n_add hx hb d_B_term_98 ?_
        refine va_put (D := D) (ci := 0) (v := .int (nI (nt + 1))) (ty := .int) (C := R_B) (T := F_B) (N := 14) hx hb hts in_B t_B tok_B nm_B hown hK hP hD hS 0 rfl rfl 7 (by decide) (hts _ wd_54) (fun _ h9 => h9) rfl (by decide +kernel) rfl rfl (Nat.le_of_ble_eq_true rfl) d_B_term_99 (fun H locs hP hD hS => ?_)
        have hP : va_P D cls (bsW ad cL cI nv nb (nt + 1) nf na lv nm vw vp (updN tw nt wd) ab am (cSum (50 + nt * 4) (50 + ka * 4) (50 + kb * 4) wd w)) H := hP
        have hD : va_D A (bsW ad cL cI nv nb (nt + 1) nf na lv nm vw vp (updN tw nt wd) ab am (cSum (50 + nt * 4) (50 + ka * 4) (50 + kb * 4) wd w)) := hD
        refine lv_aload_n hx hb d_B_term_102 rfl (lv_at hl 1 rfl) ?_
        refine va_get (D := D) (ci := 0) (v := .int (nI (nt + 1))) (C := R_B) (T := F_B) (N := 14) hx hb hts in_B hown hK hP 0 rfl rfl 7 (by decide) (hts _ wd_54) (fun _ h9 => h9) rfl d_B_term_103 ?_
        refine lv_iconst (v := nI 1) hx hb d_B_term_106 (by decide) ?_
        refine n_sub hx hb (by omega) d_B_term_107 ?_
        exact fn_iret hx hb hr hlocks hAe hK hP hD hS (by rw [Nat.add_sub_cancel]) d_B_term_108
    · exact absurd c_30 (by omega)
  · exact absurd c_13 (by omega)
set_option maxHeartbeats 4000000 in
set_option maxRecDepth 100000 in
theorem c_B_term_3 (l : Launch) (D : va_G) (ad : Nat → Nat) (cL cI : ClassId) (nv nb nt nf na lv nm : Nat) (vw vp tw ab am : Nat → Nat) (w : Nat → Int64) (hok : Bok nv nb nt nf na lv nm vw vp tw ab am) (ka kb : Nat) (kc : Int32) (ha : ka < nt) (hb2 : kb < nt) (wd : Nat) (hw : pW nv nt nf vw tw (nI 3) (nI ka) (nI kb) kc = wd) (h1 : 1 ≤ wd) (h4 : wd ≤ 4) (hnt : nt < 50)  : Fn l y_B_term (wk y_B_term b_B_term 6 (some .int)) rm_B_term D cls [(cL, .long), (cI, .int)] [.ref (ad 0), .int (nI 3), .int (nI ka), .int (nI kb), .int kc] (bsW ad cL cI nv nb nt nf na lv nm vw vp tw ab am w) XT (some (.int (nI nt))) (bsW ad cL cI nv nb (nt + 1) nf na lv nm vw vp (updN tw nt wd) ab am (cDiff (50 + nt * 4) (50 + ka * 4) (50 + kb * 4) wd w)) := by
  refine Fn.of (by decide) rfl (Nat.le_of_ble_eq_true rfl) ?_
  intro p e s m below meth c A ls hx hb hml hr hts0 hown hlocks hnm hP hK hD hS hA hAe hX hl
  have hts : ∀ w ∈ lw_ok, w.before _ s = true := fun w h => hts0 w (List.mem_cons_of_mem _ h)
  have hown : s.vm.findClass R_B = some m.cls := hown
  have hP : va_P D cls (bsW ad cL cI nv nb nt nf na lv nm vw vp tw ab am w) s.heap := hP
  have hl : lv_has ls 6 [(0, .ref (ad 0)), (1, .int (nI 3)), (2, .int (nI ka)), (3, .int (nI kb)), (4, .int kc)] := hl
  obtain ⟨o_nv, o_nb, o_nt, o_nf, o_na, o_lv, o_nm, o_vw, o_tw, o_am, o_ab⟩ := id hok
  refine lv_aload_n hx hb d_B_term_0 rfl (lv_at hl 0 rfl) ?_
  refine lv_iload_n hx hb d_B_term_1 rfl (lv_at hl 1 rfl) ?_
  refine lv_iload_n hx hb d_B_term_2 rfl (lv_at hl 2 rfl) ?_
  refine lv_iload_n hx hb d_B_term_3 rfl (lv_at hl 3 rfl) ?_
  refine lv_iload hx hb d_B_term_4 (lv_at hl 4 rfl) ?_
  refine fn_V (ws' := (bsW ad cL cI nv nb nt nf na lv nm vw vp tw ab am w)) (w1 := (bsW ad cL cI nv nb nt nf na lv nm vw vp tw ab am w)) (wc := (bsW ad cL cI nv nb nt nf na lv nm vw vp tw ab am w)) (wr := []) ⟨hx, hb, hml, hown, hts⟩ (c_B_widthToBuild l D ad cL cI nv nb nt nf na lv nm vw vp tw ab am w hok (nI 3) (nI ka) (nI kb) kc) ⟨callB_of 4 hts (gW wd_236) rfl rfl rfl (hts _ wd_1) (hts _ wd_233) hd_B_widthToBuild ⟨Nat.le_of_ble_eq_true rfl, Nat.le_of_ble_eq_true rfl⟩, hts _ wd_235, hts _ wd_p6⟩ XT_ok (fun _ _ _ => trivial) hK hP hD hS hA 0 0 rfl rfl rfl [0, 1] [0, 1, 2, 3, 4, 5, 6, 7, 8] [] [0, 1, 2, 3, 4, 5, 6, 7, 8] rfl rfl rfl rfl rfl (by decide) rfl rfl rfl hl.1 rfl (Nat.le_of_ble_eq_true rfl) d_B_term_6 ⟨Nat.zero_le _, Nat.zero_le _⟩ (st1 := [.int (nI (pW nv nt nf vw tw (nI 3) (nI ka) (nI kb) kc))]) rfl (fun H locs hP hD hS => ?_)
  rw [hw]
  refine lv_istore (lv' := [(5, .int (nI wd)), (0, .ref (ad 0)), (1, .int (nI 3)), (2, .int (nI ka)), (3, .int (nI kb)), (4, .int kc)]) hx hb d_B_term_9 hl (by decide) rfl (fun ls hl => ?_)
  refine lv_iload hx hb d_B_term_11 (lv_at hl 0 rfl) ?_
  refine z_if_ne (tgt := 24) hx hb (nI_toInt (by omega)) d_B_term_13 (by decide) (fun c_13 => ?_) (fun c_13 => ?_)
  · refine lv_aload_n hx hb d_B_term_24 rfl (lv_at hl 1 rfl) ?_
    refine va_get (D := D) (ci := 0) (v := .int (nI nt)) (C := R_B) (T := F_B) (N := 14) hx hb hts in_B hown hK hP 0 rfl rfl 7 (by decide) (hts _ wd_54) (fun _ h9 => h9) rfl d_B_term_25 ?_
    refine lv_bipush (v := nI 50) hx hb d_B_term_28 (by decide) ?_
    refine z_icmp_lt (tgt := 41) hx hb (nI_toInt (by omega)) (nI_toInt (by omega)) d_B_term_30 (by decide) (fun c_30 => ?_) (fun c_30 => ?_)
    · refine lv_aload_n hx hb d_B_term_41 rfl (lv_at hl 1 rfl) ?_
      refine va_get (D := D) (ci := 0) (v := .ref (ad 6)) (C := R_B) (T := F_B) (N := 14) hx hb hts in_B hown hK hP 0 rfl rfl 6 (by decide) (hts _ wd_53) (fun _ h9 => h9) rfl d_B_term_42 ?_
      refine lv_aload_n hx hb d_B_term_45 rfl (lv_at hl 1 rfl) ?_
      refine va_get (D := D) (ci := 0) (v := .int (nI nt)) (C := R_B) (T := F_B) (N := 14) hx hb hts in_B hown hK hP 0 rfl rfl 7 (by decide) (hts _ wd_54) (fun _ h9 => h9) rfl d_B_term_46 ?_
      refine lv_iload hx hb d_B_term_49 (lv_at hl 0 rfl) ?_
      refine n_iast hx hb hK hP hD hS 6 1 rfl rfl (i := nt) (by omega) (by omega) (updN_I _ _ _) d_B_term_51 (ws' := (bsW ad cL cI nv nb nt nf na lv nm vw vp (updN tw nt wd) ab am w)) rfl (fun H locs hP hD hS => ?_)
      refine lv_iload_n hx hb d_B_term_52 rfl (lv_at hl 2 rfl) ?_
      refine lv_iconst (v := nI 4) hx hb d_B_term_53 (by decide) ?_
      refine z_icmp_gt (tgt := 67) hx hb (nI_toInt (by omega)) (nI_toInt (by omega)) d_B_term_54 (by decide) (fun c_54 => ?_) (fun c_54 => ?_)
      · exact absurd c_54 (by omega)
      · refine lv_aload_n hx hb d_B_term_57 rfl (lv_at hl 1 rfl) ?_
        refine lv_iload_n hx hb d_B_term_58 rfl (lv_at hl 2 rfl) ?_
        refine lv_iload_n hx hb d_B_term_59 rfl (lv_at hl 3 rfl) ?_
        refine lv_iload_n hx hb d_B_term_60 rfl (lv_at hl 4 rfl) ?_
        refine fn_V (ws' := (bsW ad cL cI nv nb nt nf na lv nm vw vp (updN tw nt wd) ab am (cDiff (50 + nt * 4) (50 + ka * 4) (50 + kb * 4) wd w))) (w1 := (bsW ad cL cI nv nb nt nf na lv nm vw vp (updN tw nt wd) ab am (cDiff (50 + nt * 4) (50 + ka * 4) (50 + kb * 4) wd w))) (wc := (bsW ad cL cI nv nb nt nf na lv nm vw vp (updN tw nt wd) ab am w)) (wr := []) ⟨hx, hb, hml, hown, hts⟩ (c_B_buildNumeric_3 l D ad cL cI nv nb nt nf na lv nm vw vp (updN tw nt wd) ab am w (Bok_tw hok wd) ka kb ha hb2 wd (updN_self _ _ _) h1 h4 hnt) ⟨callB_of 3 hts (gW wd_264) rfl rfl rfl (hts _ wd_1) (hts _ wd_261) hd_B_buildNumeric ⟨Nat.le_of_ble_eq_true rfl, Nat.le_of_ble_eq_true rfl⟩, hts _ wd_263, hts _ wd_p13⟩ XT_ok (fun _ _ _ => trivial) hK hP hD hS hA 0 0 rfl rfl rfl [0, 1] [0, 1, 2, 3, 4, 5, 6, 7, 8] [] [0, 1, 2, 3, 4, 5, 6, 7, 8] rfl rfl rfl rfl rfl (by decide) rfl rfl rfl hl.1 rfl (Nat.le_of_ble_eq_true rfl) d_B_term_61 ⟨Nat.zero_le _, Nat.zero_le _⟩ (st1 := []) rfl (fun H locs hP hD hS => ?_)
        refine lv_goto (tgt := 92) hx hb d_B_term_64 (by decide) ?_
        refine lv_aload_n hx hb d_B_term_92 rfl (lv_at hl 1 rfl) ?_
        refine lv_dup hx hb d_B_term_93 rfl ?_
        refine va_get (D := D) (ci := 0) (v := .int (nI nt)) (C := R_B) (T := F_B) (N := 14) hx hb hts in_B hown hK hP 0 rfl rfl 7 (by decide) (hts _ wd_54) (fun _ h9 => h9) rfl d_B_term_94 ?_
        refine lv_iconst (v := nI 1) hx hb d_B_term_97 (by decide) ?_
        refine n_add hx hb d_B_term_98 ?_
        refine va_put (D := D) (ci := 0) (v := .int (nI (nt + 1))) (ty := .int) (C := R_B) (T := F_B) (N := 14) hx hb hts in_B t_B tok_B nm_B hown hK hP hD hS 0 rfl rfl 7 (by decide) (hts _ wd_54) (fun _ h9 => h9) rfl (by decide +kernel) rfl rfl (Nat.le_of_ble_eq_true rfl) d_B_term_99 (fun H locs hP hD hS => ?_)
        have hP : va_P D cls (bsW ad cL cI nv nb (nt + 1) nf na lv nm vw vp (updN tw nt wd) ab am (cDiff (50 + nt * 4) (50 + ka * 4) (50 + kb * 4) wd w)) H := hP
        have hD : va_D A (bsW ad cL cI nv nb (nt + 1) nf na lv nm vw vp (updN tw nt wd) ab am (cDiff (50 + nt * 4) (50 + ka * 4) (50 + kb * 4) wd w)) := hD
        refine lv_aload_n hx hb d_B_term_102 rfl (lv_at hl 1 rfl) ?_
        refine va_get (D := D) (ci := 0) (v := .int (nI (nt + 1))) (C := R_B) (T := F_B) (N := 14) hx hb hts in_B hown hK hP 0 rfl rfl 7 (by decide) (hts _ wd_54) (fun _ h9 => h9) rfl d_B_term_103 ?_
        refine lv_iconst (v := nI 1) hx hb d_B_term_106 (by decide) ?_
        refine n_sub hx hb (by omega) d_B_term_107 ?_
        exact fn_iret hx hb hr hlocks hAe hK hP hD hS (by rw [Nat.add_sub_cancel]) d_B_term_108
    · exact absurd c_30 (by omega)
  · exact absurd c_13 (by omega)
set_option maxHeartbeats 4000000 in
set_option maxRecDepth 100000 in
theorem c_B_term_4 (l : Launch) (D : va_G) (ad : Nat → Nat) (cL cI : ClassId) (nv nb nt nf na lv nm : Nat) (vw vp tw ab am : Nat → Nat) (w : Nat → Int64) (hok : Bok nv nb nt nf na lv nm vw vp tw ab am) (ka kb : Nat) (kc : Int32) (ha : ka < nt) (hb2 : kb < nt) (wd : Nat) (hw : pW nv nt nf vw tw (nI 4) (nI ka) (nI kb) kc = wd) (h1 : 1 ≤ wd) (h4 : wd ≤ 4) (hnt : nt < 50)  : Fn l y_B_term (wk y_B_term b_B_term 6 (some .int)) rm_B_term D cls [(cL, .long), (cI, .int)] [.ref (ad 0), .int (nI 4), .int (nI ka), .int (nI kb), .int kc] (bsW ad cL cI nv nb nt nf na lv nm vw vp tw ab am w) XT (some (.int (nI nt))) (bsW ad cL cI nv nb (nt + 1) nf na lv nm vw vp (updN tw nt wd) ab am (cProd (50 + nt * 4) (50 + ka * 4) (50 + kb * 4) wd w)) := by
  refine Fn.of (by decide) rfl (Nat.le_of_ble_eq_true rfl) ?_
  intro p e s m below meth c A ls hx hb hml hr hts0 hown hlocks hnm hP hK hD hS hA hAe hX hl
  have hts : ∀ w ∈ lw_ok, w.before _ s = true := fun w h => hts0 w (List.mem_cons_of_mem _ h)
  have hown : s.vm.findClass R_B = some m.cls := hown
  have hP : va_P D cls (bsW ad cL cI nv nb nt nf na lv nm vw vp tw ab am w) s.heap := hP
  have hl : lv_has ls 6 [(0, .ref (ad 0)), (1, .int (nI 4)), (2, .int (nI ka)), (3, .int (nI kb)), (4, .int kc)] := hl
  obtain ⟨o_nv, o_nb, o_nt, o_nf, o_na, o_lv, o_nm, o_vw, o_tw, o_am, o_ab⟩ := id hok
  refine lv_aload_n hx hb d_B_term_0 rfl (lv_at hl 0 rfl) ?_
  refine lv_iload_n hx hb d_B_term_1 rfl (lv_at hl 1 rfl) ?_
  refine lv_iload_n hx hb d_B_term_2 rfl (lv_at hl 2 rfl) ?_
  refine lv_iload_n hx hb d_B_term_3 rfl (lv_at hl 3 rfl) ?_
  refine lv_iload hx hb d_B_term_4 (lv_at hl 4 rfl) ?_
  refine fn_V (ws' := (bsW ad cL cI nv nb nt nf na lv nm vw vp tw ab am w)) (w1 := (bsW ad cL cI nv nb nt nf na lv nm vw vp tw ab am w)) (wc := (bsW ad cL cI nv nb nt nf na lv nm vw vp tw ab am w)) (wr := []) ⟨hx, hb, hml, hown, hts⟩ (c_B_widthToBuild l D ad cL cI nv nb nt nf na lv nm vw vp tw ab am w hok (nI 4) (nI ka) (nI kb) kc) ⟨callB_of 4 hts (gW wd_236) rfl rfl rfl (hts _ wd_1) (hts _ wd_233) hd_B_widthToBuild ⟨Nat.le_of_ble_eq_true rfl, Nat.le_of_ble_eq_true rfl⟩, hts _ wd_235, hts _ wd_p6⟩ XT_ok (fun _ _ _ => trivial) hK hP hD hS hA 0 0 rfl rfl rfl [0, 1] [0, 1, 2, 3, 4, 5, 6, 7, 8] [] [0, 1, 2, 3, 4, 5, 6, 7, 8] rfl rfl rfl rfl rfl (by decide) rfl rfl rfl hl.1 rfl (Nat.le_of_ble_eq_true rfl) d_B_term_6 ⟨Nat.zero_le _, Nat.zero_le _⟩ (st1 := [.int (nI (pW nv nt nf vw tw (nI 4) (nI ka) (nI kb) kc))]) rfl (fun H locs hP hD hS => ?_)
  rw [hw]
  refine lv_istore (lv' := [(5, .int (nI wd)), (0, .ref (ad 0)), (1, .int (nI 4)), (2, .int (nI ka)), (3, .int (nI kb)), (4, .int kc)]) hx hb d_B_term_9 hl (by decide) rfl (fun ls hl => ?_)
  refine lv_iload hx hb d_B_term_11 (lv_at hl 0 rfl) ?_
  refine z_if_ne (tgt := 24) hx hb (nI_toInt (by omega)) d_B_term_13 (by decide) (fun c_13 => ?_) (fun c_13 => ?_)
  · refine lv_aload_n hx hb d_B_term_24 rfl (lv_at hl 1 rfl) ?_
    refine va_get (D := D) (ci := 0) (v := .int (nI nt)) (C := R_B) (T := F_B) (N := 14) hx hb hts in_B hown hK hP 0 rfl rfl 7 (by decide) (hts _ wd_54) (fun _ h9 => h9) rfl d_B_term_25 ?_
    refine lv_bipush (v := nI 50) hx hb d_B_term_28 (by decide) ?_
    refine z_icmp_lt (tgt := 41) hx hb (nI_toInt (by omega)) (nI_toInt (by omega)) d_B_term_30 (by decide) (fun c_30 => ?_) (fun c_30 => ?_)
    · refine lv_aload_n hx hb d_B_term_41 rfl (lv_at hl 1 rfl) ?_
      refine va_get (D := D) (ci := 0) (v := .ref (ad 6)) (C := R_B) (T := F_B) (N := 14) hx hb hts in_B hown hK hP 0 rfl rfl 6 (by decide) (hts _ wd_53) (fun _ h9 => h9) rfl d_B_term_42 ?_
      refine lv_aload_n hx hb d_B_term_45 rfl (lv_at hl 1 rfl) ?_
      refine va_get (D := D) (ci := 0) (v := .int (nI nt)) (C := R_B) (T := F_B) (N := 14) hx hb hts in_B hown hK hP 0 rfl rfl 7 (by decide) (hts _ wd_54) (fun _ h9 => h9) rfl d_B_term_46 ?_
      refine lv_iload hx hb d_B_term_49 (lv_at hl 0 rfl) ?_
      refine n_iast hx hb hK hP hD hS 6 1 rfl rfl (i := nt) (by omega) (by omega) (updN_I _ _ _) d_B_term_51 (ws' := (bsW ad cL cI nv nb nt nf na lv nm vw vp (updN tw nt wd) ab am w)) rfl (fun H locs hP hD hS => ?_)
      refine lv_iload_n hx hb d_B_term_52 rfl (lv_at hl 2 rfl) ?_
      refine lv_iconst (v := nI 4) hx hb d_B_term_53 (by decide) ?_
      refine z_icmp_gt (tgt := 67) hx hb (nI_toInt (by omega)) (nI_toInt (by omega)) d_B_term_54 (by decide) (fun c_54 => ?_) (fun c_54 => ?_)
      · exact absurd c_54 (by omega)
      · refine lv_aload_n hx hb d_B_term_57 rfl (lv_at hl 1 rfl) ?_
        refine lv_iload_n hx hb d_B_term_58 rfl (lv_at hl 2 rfl) ?_
        refine lv_iload_n hx hb d_B_term_59 rfl (lv_at hl 3 rfl) ?_
        refine lv_iload_n hx hb d_B_term_60 rfl (lv_at hl 4 rfl) ?_
        refine fn_V (ws' := (bsW ad cL cI nv nb nt nf na lv nm vw vp (updN tw nt wd) ab am (cProd (50 + nt * 4) (50 + ka * 4) (50 + kb * 4) wd w))) (w1 := (bsW ad cL cI nv nb nt nf na lv nm vw vp (updN tw nt wd) ab am (cProd (50 + nt * 4) (50 + ka * 4) (50 + kb * 4) wd w))) (wc := (bsW ad cL cI nv nb nt nf na lv nm vw vp (updN tw nt wd) ab am w)) (wr := []) ⟨hx, hb, hml, hown, hts⟩ (c_B_buildNumeric_4 l D ad cL cI nv nb nt nf na lv nm vw vp (updN tw nt wd) ab am w (Bok_tw hok wd) ka kb ha hb2 wd (updN_self _ _ _) h1 h4 hnt) ⟨callB_of 3 hts (gW wd_264) rfl rfl rfl (hts _ wd_1) (hts _ wd_261) hd_B_buildNumeric ⟨Nat.le_of_ble_eq_true rfl, Nat.le_of_ble_eq_true rfl⟩, hts _ wd_263, hts _ wd_p13⟩ XT_ok (fun _ _ _ => trivial) hK hP hD hS hA 0 0 rfl rfl rfl [0, 1] [0, 1, 2, 3, 4, 5, 6, 7, 8] [] [0, 1, 2, 3, 4, 5, 6, 7, 8] rfl rfl rfl rfl rfl (by decide) rfl rfl rfl hl.1 rfl (Nat.le_of_ble_eq_true rfl) d_B_term_61 ⟨Nat.zero_le _, Nat.zero_le _⟩ (st1 := []) rfl (fun H locs hP hD hS => ?_)
        refine lv_goto (tgt := 92) hx hb d_B_term_64 (by decide) ?_
        refine lv_aload_n hx hb d_B_term_92 rfl (lv_at hl 1 rfl) ?_
        refine lv_dup hx hb d_B_term_93 rfl ?_
        refine va_get (D := D) (ci := 0) (v := .int (nI nt)) (C := R_B) (T := F_B) (N := 14) hx hb hts in_B hown hK hP 0 rfl rfl 7 (by decide) (hts _ wd_54) (fun _ h9 => h9) rfl d_B_term_94 ?_
        refine lv_iconst (v := nI 1) hx hb d_B_term_97 (by decide) ?_
        refine n_add hx hb d_B_term_98 ?_
        refine va_put (D := D) (ci := 0) (v := .int (nI (nt + 1))) (ty := .int) (C := R_B) (T := F_B) (N := 14) hx hb hts in_B t_B tok_B nm_B hown hK hP hD hS 0 rfl rfl 7 (by decide) (hts _ wd_54) (fun _ h9 => h9) rfl (by decide +kernel) rfl rfl (Nat.le_of_ble_eq_true rfl) d_B_term_99 (fun H locs hP hD hS => ?_)
        have hP : va_P D cls (bsW ad cL cI nv nb (nt + 1) nf na lv nm vw vp (updN tw nt wd) ab am (cProd (50 + nt * 4) (50 + ka * 4) (50 + kb * 4) wd w)) H := hP
        have hD : va_D A (bsW ad cL cI nv nb (nt + 1) nf na lv nm vw vp (updN tw nt wd) ab am (cProd (50 + nt * 4) (50 + ka * 4) (50 + kb * 4) wd w)) := hD
        refine lv_aload_n hx hb d_B_term_102 rfl (lv_at hl 1 rfl) ?_
        refine va_get (D := D) (ci := 0) (v := .int (nI (nt + 1))) (C := R_B) (T := F_B) (N := 14) hx hb hts in_B hown hK hP 0 rfl rfl 7 (by decide) (hts _ wd_54) (fun _ h9 => h9) rfl d_B_term_103 ?_
        refine lv_iconst (v := nI 1) hx hb d_B_term_106 (by decide) ?_
        refine n_sub hx hb (by omega) d_B_term_107 ?_
        exact fn_iret hx hb hr hlocks hAe hK hP hD hS (by rw [Nat.add_sub_cancel]) d_B_term_108
    · exact absurd c_30 (by omega)
  · exact absurd c_13 (by omega)
set_option maxHeartbeats 4000000 in
set_option maxRecDepth 100000 in
theorem c_B_term_5 (l : Launch) (D : va_G) (ad : Nat → Nat) (cL cI : ClassId) (nv nb nt nf na lv nm : Nat) (vw vp tw ab am : Nat → Nat) (w : Nat → Int64) (hok : Bok nv nb nt nf na lv nm vw vp tw ab am) (ka kb : Nat) (kc : Int32) (ha : ka < nt) (hb2 : kb < nt) (wd : Nat) (hw : pW nv nt nf vw tw (nI 5) (nI ka) (nI kb) kc = wd) (h1 : 1 ≤ wd) (h4 : wd ≤ 4) (hnt : nt < 50)  : Fn l y_B_term (wk y_B_term b_B_term 6 (some .int)) rm_B_term D cls [(cL, .long), (cI, .int)] [.ref (ad 0), .int (nI 5), .int (nI ka), .int (nI kb), .int kc] (bsW ad cL cI nv nb nt nf na lv nm vw vp tw ab am w) XT (some (.int (nI nt))) (bsW ad cL cI nv nb (nt + 1) nf na lv nm vw vp (updN tw nt wd) ab am (oAnd (50 + nt * 4) (50 + ka * 4) (50 + kb * 4) wd w)) := by
  refine Fn.of (by decide) rfl (Nat.le_of_ble_eq_true rfl) ?_
  intro p e s m below meth c A ls hx hb hml hr hts0 hown hlocks hnm hP hK hD hS hA hAe hX hl
  have hts : ∀ w ∈ lw_ok, w.before _ s = true := fun w h => hts0 w (List.mem_cons_of_mem _ h)
  have hown : s.vm.findClass R_B = some m.cls := hown
  have hP : va_P D cls (bsW ad cL cI nv nb nt nf na lv nm vw vp tw ab am w) s.heap := hP
  have hl : lv_has ls 6 [(0, .ref (ad 0)), (1, .int (nI 5)), (2, .int (nI ka)), (3, .int (nI kb)), (4, .int kc)] := hl
  obtain ⟨o_nv, o_nb, o_nt, o_nf, o_na, o_lv, o_nm, o_vw, o_tw, o_am, o_ab⟩ := id hok
  refine lv_aload_n hx hb d_B_term_0 rfl (lv_at hl 0 rfl) ?_
  refine lv_iload_n hx hb d_B_term_1 rfl (lv_at hl 1 rfl) ?_
  refine lv_iload_n hx hb d_B_term_2 rfl (lv_at hl 2 rfl) ?_
  refine lv_iload_n hx hb d_B_term_3 rfl (lv_at hl 3 rfl) ?_
  refine lv_iload hx hb d_B_term_4 (lv_at hl 4 rfl) ?_
  refine fn_V (ws' := (bsW ad cL cI nv nb nt nf na lv nm vw vp tw ab am w)) (w1 := (bsW ad cL cI nv nb nt nf na lv nm vw vp tw ab am w)) (wc := (bsW ad cL cI nv nb nt nf na lv nm vw vp tw ab am w)) (wr := []) ⟨hx, hb, hml, hown, hts⟩ (c_B_widthToBuild l D ad cL cI nv nb nt nf na lv nm vw vp tw ab am w hok (nI 5) (nI ka) (nI kb) kc) ⟨callB_of 4 hts (gW wd_236) rfl rfl rfl (hts _ wd_1) (hts _ wd_233) hd_B_widthToBuild ⟨Nat.le_of_ble_eq_true rfl, Nat.le_of_ble_eq_true rfl⟩, hts _ wd_235, hts _ wd_p6⟩ XT_ok (fun _ _ _ => trivial) hK hP hD hS hA 0 0 rfl rfl rfl [0, 1] [0, 1, 2, 3, 4, 5, 6, 7, 8] [] [0, 1, 2, 3, 4, 5, 6, 7, 8] rfl rfl rfl rfl rfl (by decide) rfl rfl rfl hl.1 rfl (Nat.le_of_ble_eq_true rfl) d_B_term_6 ⟨Nat.zero_le _, Nat.zero_le _⟩ (st1 := [.int (nI (pW nv nt nf vw tw (nI 5) (nI ka) (nI kb) kc))]) rfl (fun H locs hP hD hS => ?_)
  rw [hw]
  refine lv_istore (lv' := [(5, .int (nI wd)), (0, .ref (ad 0)), (1, .int (nI 5)), (2, .int (nI ka)), (3, .int (nI kb)), (4, .int kc)]) hx hb d_B_term_9 hl (by decide) rfl (fun ls hl => ?_)
  refine lv_iload hx hb d_B_term_11 (lv_at hl 0 rfl) ?_
  refine z_if_ne (tgt := 24) hx hb (nI_toInt (by omega)) d_B_term_13 (by decide) (fun c_13 => ?_) (fun c_13 => ?_)
  · refine lv_aload_n hx hb d_B_term_24 rfl (lv_at hl 1 rfl) ?_
    refine va_get (D := D) (ci := 0) (v := .int (nI nt)) (C := R_B) (T := F_B) (N := 14) hx hb hts in_B hown hK hP 0 rfl rfl 7 (by decide) (hts _ wd_54) (fun _ h9 => h9) rfl d_B_term_25 ?_
    refine lv_bipush (v := nI 50) hx hb d_B_term_28 (by decide) ?_
    refine z_icmp_lt (tgt := 41) hx hb (nI_toInt (by omega)) (nI_toInt (by omega)) d_B_term_30 (by decide) (fun c_30 => ?_) (fun c_30 => ?_)
    · refine lv_aload_n hx hb d_B_term_41 rfl (lv_at hl 1 rfl) ?_
      refine va_get (D := D) (ci := 0) (v := .ref (ad 6)) (C := R_B) (T := F_B) (N := 14) hx hb hts in_B hown hK hP 0 rfl rfl 6 (by decide) (hts _ wd_53) (fun _ h9 => h9) rfl d_B_term_42 ?_
      refine lv_aload_n hx hb d_B_term_45 rfl (lv_at hl 1 rfl) ?_
      refine va_get (D := D) (ci := 0) (v := .int (nI nt)) (C := R_B) (T := F_B) (N := 14) hx hb hts in_B hown hK hP 0 rfl rfl 7 (by decide) (hts _ wd_54) (fun _ h9 => h9) rfl d_B_term_46 ?_
      refine lv_iload hx hb d_B_term_49 (lv_at hl 0 rfl) ?_
      refine n_iast hx hb hK hP hD hS 6 1 rfl rfl (i := nt) (by omega) (by omega) (updN_I _ _ _) d_B_term_51 (ws' := (bsW ad cL cI nv nb nt nf na lv nm vw vp (updN tw nt wd) ab am w)) rfl (fun H locs hP hD hS => ?_)
      refine lv_iload_n hx hb d_B_term_52 rfl (lv_at hl 2 rfl) ?_
      refine lv_iconst (v := nI 4) hx hb d_B_term_53 (by decide) ?_
      refine z_icmp_gt (tgt := 67) hx hb (nI_toInt (by omega)) (nI_toInt (by omega)) d_B_term_54 (by decide) (fun c_54 => ?_) (fun c_54 => ?_)
      · refine lv_iload_n hx hb d_B_term_67 rfl (lv_at hl 2 rfl) ?_
        refine lv_bipush (v := nI 8) hx hb d_B_term_68 (by decide) ?_
        refine z_icmp_gt (tgt := 83) hx hb (nI_toInt (by omega)) (nI_toInt (by omega)) d_B_term_70 (by decide) (fun c_70 => ?_) (fun c_70 => ?_)
        · exact absurd c_70 (by omega)
        · refine lv_aload_n hx hb d_B_term_73 rfl (lv_at hl 1 rfl) ?_
          refine lv_iload_n hx hb d_B_term_74 rfl (lv_at hl 2 rfl) ?_
          refine lv_iload_n hx hb d_B_term_75 rfl (lv_at hl 3 rfl) ?_
          refine lv_iload_n hx hb d_B_term_76 rfl (lv_at hl 4 rfl) ?_
          refine fn_V (ws' := (bsW ad cL cI nv nb nt nf na lv nm vw vp (updN tw nt wd) ab am (oAnd (50 + nt * 4) (50 + ka * 4) (50 + kb * 4) wd w))) (w1 := (bsW ad cL cI nv nb nt nf na lv nm vw vp (updN tw nt wd) ab am (oAnd (50 + nt * 4) (50 + ka * 4) (50 + kb * 4) wd w))) (wc := (bsW ad cL cI nv nb nt nf na lv nm vw vp (updN tw nt wd) ab am w)) (wr := []) ⟨hx, hb, hml, hown, hts⟩ (c_B_buildBitwise_5 l D ad cL cI nv nb nt nf na lv nm vw vp (updN tw nt wd) ab am w (Bok_tw hok wd) ka kb ha hb2 wd (updN_self _ _ _) h1 h4 hnt) ⟨callB_of 3 hts (gW wd_318) rfl rfl rfl (hts _ wd_1) (hts _ wd_315) hd_B_buildBitwise ⟨Nat.le_of_ble_eq_true rfl, Nat.le_of_ble_eq_true rfl⟩, hts _ wd_317, hts _ wd_p17⟩ XT_ok (fun _ _ _ => trivial) hK hP hD hS hA 0 0 rfl rfl rfl [0, 1] [0, 1, 2, 3, 4, 5, 6, 7, 8] [] [0, 1, 2, 3, 4, 5, 6, 7, 8] rfl rfl rfl rfl rfl (by decide) rfl rfl rfl hl.1 rfl (Nat.le_of_ble_eq_true rfl) d_B_term_77 ⟨Nat.zero_le _, Nat.zero_le _⟩ (st1 := []) rfl (fun H locs hP hD hS => ?_)
          refine lv_goto (tgt := 92) hx hb d_B_term_80 (by decide) ?_
          refine lv_aload_n hx hb d_B_term_92 rfl (lv_at hl 1 rfl) ?_
          refine lv_dup hx hb d_B_term_93 rfl ?_
          refine va_get (D := D) (ci := 0) (v := .int (nI nt)) (C := R_B) (T := F_B) (N := 14) hx hb hts in_B hown hK hP 0 rfl rfl 7 (by decide) (hts _ wd_54) (fun _ h9 => h9) rfl d_B_term_94 ?_
          refine lv_iconst (v := nI 1) hx hb d_B_term_97 (by decide) ?_
          refine n_add hx hb d_B_term_98 ?_
          refine va_put (D := D) (ci := 0) (v := .int (nI (nt + 1))) (ty := .int) (C := R_B) (T := F_B) (N := 14) hx hb hts in_B t_B tok_B nm_B hown hK hP hD hS 0 rfl rfl 7 (by decide) (hts _ wd_54) (fun _ h9 => h9) rfl (by decide +kernel) rfl rfl (Nat.le_of_ble_eq_true rfl) d_B_term_99 (fun H locs hP hD hS => ?_)
          have hP : va_P D cls (bsW ad cL cI nv nb (nt + 1) nf na lv nm vw vp (updN tw nt wd) ab am (oAnd (50 + nt * 4) (50 + ka * 4) (50 + kb * 4) wd w)) H := hP
          have hD : va_D A (bsW ad cL cI nv nb (nt + 1) nf na lv nm vw vp (updN tw nt wd) ab am (oAnd (50 + nt * 4) (50 + ka * 4) (50 + kb * 4) wd w)) := hD
          refine lv_aload_n hx hb d_B_term_102 rfl (lv_at hl 1 rfl) ?_
          refine va_get (D := D) (ci := 0) (v := .int (nI (nt + 1))) (C := R_B) (T := F_B) (N := 14) hx hb hts in_B hown hK hP 0 rfl rfl 7 (by decide) (hts _ wd_54) (fun _ h9 => h9) rfl d_B_term_103 ?_
          refine lv_iconst (v := nI 1) hx hb d_B_term_106 (by decide) ?_
          refine n_sub hx hb (by omega) d_B_term_107 ?_
          exact fn_iret hx hb hr hlocks hAe hK hP hD hS (by rw [Nat.add_sub_cancel]) d_B_term_108
      · exact absurd c_54 (by omega)
    · exact absurd c_30 (by omega)
  · exact absurd c_13 (by omega)
set_option maxHeartbeats 4000000 in
set_option maxRecDepth 100000 in
theorem c_B_term_6 (l : Launch) (D : va_G) (ad : Nat → Nat) (cL cI : ClassId) (nv nb nt nf na lv nm : Nat) (vw vp tw ab am : Nat → Nat) (w : Nat → Int64) (hok : Bok nv nb nt nf na lv nm vw vp tw ab am) (ka kb : Nat) (kc : Int32) (ha : ka < nt) (hb2 : kb < nt) (wd : Nat) (hw : pW nv nt nf vw tw (nI 6) (nI ka) (nI kb) kc = wd) (h1 : 1 ≤ wd) (h4 : wd ≤ 4) (hnt : nt < 50)  : Fn l y_B_term (wk y_B_term b_B_term 6 (some .int)) rm_B_term D cls [(cL, .long), (cI, .int)] [.ref (ad 0), .int (nI 6), .int (nI ka), .int (nI kb), .int kc] (bsW ad cL cI nv nb nt nf na lv nm vw vp tw ab am w) XT (some (.int (nI nt))) (bsW ad cL cI nv nb (nt + 1) nf na lv nm vw vp (updN tw nt wd) ab am (oOr (50 + nt * 4) (50 + ka * 4) (50 + kb * 4) wd w)) := by
  refine Fn.of (by decide) rfl (Nat.le_of_ble_eq_true rfl) ?_
  intro p e s m below meth c A ls hx hb hml hr hts0 hown hlocks hnm hP hK hD hS hA hAe hX hl
  have hts : ∀ w ∈ lw_ok, w.before _ s = true := fun w h => hts0 w (List.mem_cons_of_mem _ h)
  have hown : s.vm.findClass R_B = some m.cls := hown
  have hP : va_P D cls (bsW ad cL cI nv nb nt nf na lv nm vw vp tw ab am w) s.heap := hP
  have hl : lv_has ls 6 [(0, .ref (ad 0)), (1, .int (nI 6)), (2, .int (nI ka)), (3, .int (nI kb)), (4, .int kc)] := hl
  obtain ⟨o_nv, o_nb, o_nt, o_nf, o_na, o_lv, o_nm, o_vw, o_tw, o_am, o_ab⟩ := id hok
  refine lv_aload_n hx hb d_B_term_0 rfl (lv_at hl 0 rfl) ?_
  refine lv_iload_n hx hb d_B_term_1 rfl (lv_at hl 1 rfl) ?_
  refine lv_iload_n hx hb d_B_term_2 rfl (lv_at hl 2 rfl) ?_
  refine lv_iload_n hx hb d_B_term_3 rfl (lv_at hl 3 rfl) ?_
  refine lv_iload hx hb d_B_term_4 (lv_at hl 4 rfl) ?_
  refine fn_V (ws' := (bsW ad cL cI nv nb nt nf na lv nm vw vp tw ab am w)) (w1 := (bsW ad cL cI nv nb nt nf na lv nm vw vp tw ab am w)) (wc := (bsW ad cL cI nv nb nt nf na lv nm vw vp tw ab am w)) (wr := []) ⟨hx, hb, hml, hown, hts⟩ (c_B_widthToBuild l D ad cL cI nv nb nt nf na lv nm vw vp tw ab am w hok (nI 6) (nI ka) (nI kb) kc) ⟨callB_of 4 hts (gW wd_236) rfl rfl rfl (hts _ wd_1) (hts _ wd_233) hd_B_widthToBuild ⟨Nat.le_of_ble_eq_true rfl, Nat.le_of_ble_eq_true rfl⟩, hts _ wd_235, hts _ wd_p6⟩ XT_ok (fun _ _ _ => trivial) hK hP hD hS hA 0 0 rfl rfl rfl [0, 1] [0, 1, 2, 3, 4, 5, 6, 7, 8] [] [0, 1, 2, 3, 4, 5, 6, 7, 8] rfl rfl rfl rfl rfl (by decide) rfl rfl rfl hl.1 rfl (Nat.le_of_ble_eq_true rfl) d_B_term_6 ⟨Nat.zero_le _, Nat.zero_le _⟩ (st1 := [.int (nI (pW nv nt nf vw tw (nI 6) (nI ka) (nI kb) kc))]) rfl (fun H locs hP hD hS => ?_)
  rw [hw]
  refine lv_istore (lv' := [(5, .int (nI wd)), (0, .ref (ad 0)), (1, .int (nI 6)), (2, .int (nI ka)), (3, .int (nI kb)), (4, .int kc)]) hx hb d_B_term_9 hl (by decide) rfl (fun ls hl => ?_)
  refine lv_iload hx hb d_B_term_11 (lv_at hl 0 rfl) ?_
  refine z_if_ne (tgt := 24) hx hb (nI_toInt (by omega)) d_B_term_13 (by decide) (fun c_13 => ?_) (fun c_13 => ?_)
  · refine lv_aload_n hx hb d_B_term_24 rfl (lv_at hl 1 rfl) ?_
    refine va_get (D := D) (ci := 0) (v := .int (nI nt)) (C := R_B) (T := F_B) (N := 14) hx hb hts in_B hown hK hP 0 rfl rfl 7 (by decide) (hts _ wd_54) (fun _ h9 => h9) rfl d_B_term_25 ?_
    refine lv_bipush (v := nI 50) hx hb d_B_term_28 (by decide) ?_
    refine z_icmp_lt (tgt := 41) hx hb (nI_toInt (by omega)) (nI_toInt (by omega)) d_B_term_30 (by decide) (fun c_30 => ?_) (fun c_30 => ?_)
    · refine lv_aload_n hx hb d_B_term_41 rfl (lv_at hl 1 rfl) ?_
      refine va_get (D := D) (ci := 0) (v := .ref (ad 6)) (C := R_B) (T := F_B) (N := 14) hx hb hts in_B hown hK hP 0 rfl rfl 6 (by decide) (hts _ wd_53) (fun _ h9 => h9) rfl d_B_term_42 ?_
      refine lv_aload_n hx hb d_B_term_45 rfl (lv_at hl 1 rfl) ?_
      refine va_get (D := D) (ci := 0) (v := .int (nI nt)) (C := R_B) (T := F_B) (N := 14) hx hb hts in_B hown hK hP 0 rfl rfl 7 (by decide) (hts _ wd_54) (fun _ h9 => h9) rfl d_B_term_46 ?_
      refine lv_iload hx hb d_B_term_49 (lv_at hl 0 rfl) ?_
      refine n_iast hx hb hK hP hD hS 6 1 rfl rfl (i := nt) (by omega) (by omega) (updN_I _ _ _) d_B_term_51 (ws' := (bsW ad cL cI nv nb nt nf na lv nm vw vp (updN tw nt wd) ab am w)) rfl (fun H locs hP hD hS => ?_)
      refine lv_iload_n hx hb d_B_term_52 rfl (lv_at hl 2 rfl) ?_
      refine lv_iconst (v := nI 4) hx hb d_B_term_53 (by decide) ?_
      refine z_icmp_gt (tgt := 67) hx hb (nI_toInt (by omega)) (nI_toInt (by omega)) d_B_term_54 (by decide) (fun c_54 => ?_) (fun c_54 => ?_)
      · refine lv_iload_n hx hb d_B_term_67 rfl (lv_at hl 2 rfl) ?_
        refine lv_bipush (v := nI 8) hx hb d_B_term_68 (by decide) ?_
        refine z_icmp_gt (tgt := 83) hx hb (nI_toInt (by omega)) (nI_toInt (by omega)) d_B_term_70 (by decide) (fun c_70 => ?_) (fun c_70 => ?_)
        · exact absurd c_70 (by omega)
        · refine lv_aload_n hx hb d_B_term_73 rfl (lv_at hl 1 rfl) ?_
          refine lv_iload_n hx hb d_B_term_74 rfl (lv_at hl 2 rfl) ?_
          refine lv_iload_n hx hb d_B_term_75 rfl (lv_at hl 3 rfl) ?_
          refine lv_iload_n hx hb d_B_term_76 rfl (lv_at hl 4 rfl) ?_
          refine fn_V (ws' := (bsW ad cL cI nv nb nt nf na lv nm vw vp (updN tw nt wd) ab am (oOr (50 + nt * 4) (50 + ka * 4) (50 + kb * 4) wd w))) (w1 := (bsW ad cL cI nv nb nt nf na lv nm vw vp (updN tw nt wd) ab am (oOr (50 + nt * 4) (50 + ka * 4) (50 + kb * 4) wd w))) (wc := (bsW ad cL cI nv nb nt nf na lv nm vw vp (updN tw nt wd) ab am w)) (wr := []) ⟨hx, hb, hml, hown, hts⟩ (c_B_buildBitwise_6 l D ad cL cI nv nb nt nf na lv nm vw vp (updN tw nt wd) ab am w (Bok_tw hok wd) ka kb ha hb2 wd (updN_self _ _ _) h1 h4 hnt) ⟨callB_of 3 hts (gW wd_318) rfl rfl rfl (hts _ wd_1) (hts _ wd_315) hd_B_buildBitwise ⟨Nat.le_of_ble_eq_true rfl, Nat.le_of_ble_eq_true rfl⟩, hts _ wd_317, hts _ wd_p17⟩ XT_ok (fun _ _ _ => trivial) hK hP hD hS hA 0 0 rfl rfl rfl [0, 1] [0, 1, 2, 3, 4, 5, 6, 7, 8] [] [0, 1, 2, 3, 4, 5, 6, 7, 8] rfl rfl rfl rfl rfl (by decide) rfl rfl rfl hl.1 rfl (Nat.le_of_ble_eq_true rfl) d_B_term_77 ⟨Nat.zero_le _, Nat.zero_le _⟩ (st1 := []) rfl (fun H locs hP hD hS => ?_)
          refine lv_goto (tgt := 92) hx hb d_B_term_80 (by decide) ?_
          refine lv_aload_n hx hb d_B_term_92 rfl (lv_at hl 1 rfl) ?_
          refine lv_dup hx hb d_B_term_93 rfl ?_
          refine va_get (D := D) (ci := 0) (v := .int (nI nt)) (C := R_B) (T := F_B) (N := 14) hx hb hts in_B hown hK hP 0 rfl rfl 7 (by decide) (hts _ wd_54) (fun _ h9 => h9) rfl d_B_term_94 ?_
          refine lv_iconst (v := nI 1) hx hb d_B_term_97 (by decide) ?_
          refine n_add hx hb d_B_term_98 ?_
          refine va_put (D := D) (ci := 0) (v := .int (nI (nt + 1))) (ty := .int) (C := R_B) (T := F_B) (N := 14) hx hb hts in_B t_B tok_B nm_B hown hK hP hD hS 0 rfl rfl 7 (by decide) (hts _ wd_54) (fun _ h9 => h9) rfl (by decide +kernel) rfl rfl (Nat.le_of_ble_eq_true rfl) d_B_term_99 (fun H locs hP hD hS => ?_)
          have hP : va_P D cls (bsW ad cL cI nv nb (nt + 1) nf na lv nm vw vp (updN tw nt wd) ab am (oOr (50 + nt * 4) (50 + ka * 4) (50 + kb * 4) wd w)) H := hP
          have hD : va_D A (bsW ad cL cI nv nb (nt + 1) nf na lv nm vw vp (updN tw nt wd) ab am (oOr (50 + nt * 4) (50 + ka * 4) (50 + kb * 4) wd w)) := hD
          refine lv_aload_n hx hb d_B_term_102 rfl (lv_at hl 1 rfl) ?_
          refine va_get (D := D) (ci := 0) (v := .int (nI (nt + 1))) (C := R_B) (T := F_B) (N := 14) hx hb hts in_B hown hK hP 0 rfl rfl 7 (by decide) (hts _ wd_54) (fun _ h9 => h9) rfl d_B_term_103 ?_
          refine lv_iconst (v := nI 1) hx hb d_B_term_106 (by decide) ?_
          refine n_sub hx hb (by omega) d_B_term_107 ?_
          exact fn_iret hx hb hr hlocks hAe hK hP hD hS (by rw [Nat.add_sub_cancel]) d_B_term_108
      · exact absurd c_54 (by omega)
    · exact absurd c_30 (by omega)
  · exact absurd c_13 (by omega)
set_option maxHeartbeats 4000000 in
set_option maxRecDepth 100000 in
theorem c_B_term_7 (l : Launch) (D : va_G) (ad : Nat → Nat) (cL cI : ClassId) (nv nb nt nf na lv nm : Nat) (vw vp tw ab am : Nat → Nat) (w : Nat → Int64) (hok : Bok nv nb nt nf na lv nm vw vp tw ab am) (ka kb : Nat) (kc : Int32) (ha : ka < nt) (hb2 : kb < nt) (wd : Nat) (hw : pW nv nt nf vw tw (nI 7) (nI ka) (nI kb) kc = wd) (h1 : 1 ≤ wd) (h4 : wd ≤ 4) (hnt : nt < 50)  : Fn l y_B_term (wk y_B_term b_B_term 6 (some .int)) rm_B_term D cls [(cL, .long), (cI, .int)] [.ref (ad 0), .int (nI 7), .int (nI ka), .int (nI kb), .int kc] (bsW ad cL cI nv nb nt nf na lv nm vw vp tw ab am w) XT (some (.int (nI nt))) (bsW ad cL cI nv nb (nt + 1) nf na lv nm vw vp (updN tw nt wd) ab am (oXor (50 + nt * 4) (50 + ka * 4) (50 + kb * 4) wd w)) := by
  refine Fn.of (by decide) rfl (Nat.le_of_ble_eq_true rfl) ?_
  intro p e s m below meth c A ls hx hb hml hr hts0 hown hlocks hnm hP hK hD hS hA hAe hX hl
  have hts : ∀ w ∈ lw_ok, w.before _ s = true := fun w h => hts0 w (List.mem_cons_of_mem _ h)
  have hown : s.vm.findClass R_B = some m.cls := hown
  have hP : va_P D cls (bsW ad cL cI nv nb nt nf na lv nm vw vp tw ab am w) s.heap := hP
  have hl : lv_has ls 6 [(0, .ref (ad 0)), (1, .int (nI 7)), (2, .int (nI ka)), (3, .int (nI kb)), (4, .int kc)] := hl
  obtain ⟨o_nv, o_nb, o_nt, o_nf, o_na, o_lv, o_nm, o_vw, o_tw, o_am, o_ab⟩ := id hok
  refine lv_aload_n hx hb d_B_term_0 rfl (lv_at hl 0 rfl) ?_
  refine lv_iload_n hx hb d_B_term_1 rfl (lv_at hl 1 rfl) ?_
  refine lv_iload_n hx hb d_B_term_2 rfl (lv_at hl 2 rfl) ?_
  refine lv_iload_n hx hb d_B_term_3 rfl (lv_at hl 3 rfl) ?_
  refine lv_iload hx hb d_B_term_4 (lv_at hl 4 rfl) ?_
  refine fn_V (ws' := (bsW ad cL cI nv nb nt nf na lv nm vw vp tw ab am w)) (w1 := (bsW ad cL cI nv nb nt nf na lv nm vw vp tw ab am w)) (wc := (bsW ad cL cI nv nb nt nf na lv nm vw vp tw ab am w)) (wr := []) ⟨hx, hb, hml, hown, hts⟩ (c_B_widthToBuild l D ad cL cI nv nb nt nf na lv nm vw vp tw ab am w hok (nI 7) (nI ka) (nI kb) kc) ⟨callB_of 4 hts (gW wd_236) rfl rfl rfl (hts _ wd_1) (hts _ wd_233) hd_B_widthToBuild ⟨Nat.le_of_ble_eq_true rfl, Nat.le_of_ble_eq_true rfl⟩, hts _ wd_235, hts _ wd_p6⟩ XT_ok (fun _ _ _ => trivial) hK hP hD hS hA 0 0 rfl rfl rfl [0, 1] [0, 1, 2, 3, 4, 5, 6, 7, 8] [] [0, 1, 2, 3, 4, 5, 6, 7, 8] rfl rfl rfl rfl rfl (by decide) rfl rfl rfl hl.1 rfl (Nat.le_of_ble_eq_true rfl) d_B_term_6 ⟨Nat.zero_le _, Nat.zero_le _⟩ (st1 := [.int (nI (pW nv nt nf vw tw (nI 7) (nI ka) (nI kb) kc))]) rfl (fun H locs hP hD hS => ?_)
  rw [hw]
  refine lv_istore (lv' := [(5, .int (nI wd)), (0, .ref (ad 0)), (1, .int (nI 7)), (2, .int (nI ka)), (3, .int (nI kb)), (4, .int kc)]) hx hb d_B_term_9 hl (by decide) rfl (fun ls hl => ?_)
  refine lv_iload hx hb d_B_term_11 (lv_at hl 0 rfl) ?_
  refine z_if_ne (tgt := 24) hx hb (nI_toInt (by omega)) d_B_term_13 (by decide) (fun c_13 => ?_) (fun c_13 => ?_)
  · refine lv_aload_n hx hb d_B_term_24 rfl (lv_at hl 1 rfl) ?_
    refine va_get (D := D) (ci := 0) (v := .int (nI nt)) (C := R_B) (T := F_B) (N := 14) hx hb hts in_B hown hK hP 0 rfl rfl 7 (by decide) (hts _ wd_54) (fun _ h9 => h9) rfl d_B_term_25 ?_
    refine lv_bipush (v := nI 50) hx hb d_B_term_28 (by decide) ?_
    refine z_icmp_lt (tgt := 41) hx hb (nI_toInt (by omega)) (nI_toInt (by omega)) d_B_term_30 (by decide) (fun c_30 => ?_) (fun c_30 => ?_)
    · refine lv_aload_n hx hb d_B_term_41 rfl (lv_at hl 1 rfl) ?_
      refine va_get (D := D) (ci := 0) (v := .ref (ad 6)) (C := R_B) (T := F_B) (N := 14) hx hb hts in_B hown hK hP 0 rfl rfl 6 (by decide) (hts _ wd_53) (fun _ h9 => h9) rfl d_B_term_42 ?_
      refine lv_aload_n hx hb d_B_term_45 rfl (lv_at hl 1 rfl) ?_
      refine va_get (D := D) (ci := 0) (v := .int (nI nt)) (C := R_B) (T := F_B) (N := 14) hx hb hts in_B hown hK hP 0 rfl rfl 7 (by decide) (hts _ wd_54) (fun _ h9 => h9) rfl d_B_term_46 ?_
      refine lv_iload hx hb d_B_term_49 (lv_at hl 0 rfl) ?_
      refine n_iast hx hb hK hP hD hS 6 1 rfl rfl (i := nt) (by omega) (by omega) (updN_I _ _ _) d_B_term_51 (ws' := (bsW ad cL cI nv nb nt nf na lv nm vw vp (updN tw nt wd) ab am w)) rfl (fun H locs hP hD hS => ?_)
      refine lv_iload_n hx hb d_B_term_52 rfl (lv_at hl 2 rfl) ?_
      refine lv_iconst (v := nI 4) hx hb d_B_term_53 (by decide) ?_
      refine z_icmp_gt (tgt := 67) hx hb (nI_toInt (by omega)) (nI_toInt (by omega)) d_B_term_54 (by decide) (fun c_54 => ?_) (fun c_54 => ?_)
      · refine lv_iload_n hx hb d_B_term_67 rfl (lv_at hl 2 rfl) ?_
        refine lv_bipush (v := nI 8) hx hb d_B_term_68 (by decide) ?_
        refine z_icmp_gt (tgt := 83) hx hb (nI_toInt (by omega)) (nI_toInt (by omega)) d_B_term_70 (by decide) (fun c_70 => ?_) (fun c_70 => ?_)
        · exact absurd c_70 (by omega)
        · refine lv_aload_n hx hb d_B_term_73 rfl (lv_at hl 1 rfl) ?_
          refine lv_iload_n hx hb d_B_term_74 rfl (lv_at hl 2 rfl) ?_
          refine lv_iload_n hx hb d_B_term_75 rfl (lv_at hl 3 rfl) ?_
          refine lv_iload_n hx hb d_B_term_76 rfl (lv_at hl 4 rfl) ?_
          refine fn_V (ws' := (bsW ad cL cI nv nb nt nf na lv nm vw vp (updN tw nt wd) ab am (oXor (50 + nt * 4) (50 + ka * 4) (50 + kb * 4) wd w))) (w1 := (bsW ad cL cI nv nb nt nf na lv nm vw vp (updN tw nt wd) ab am (oXor (50 + nt * 4) (50 + ka * 4) (50 + kb * 4) wd w))) (wc := (bsW ad cL cI nv nb nt nf na lv nm vw vp (updN tw nt wd) ab am w)) (wr := []) ⟨hx, hb, hml, hown, hts⟩ (c_B_buildBitwise_7 l D ad cL cI nv nb nt nf na lv nm vw vp (updN tw nt wd) ab am w (Bok_tw hok wd) ka kb ha hb2 wd (updN_self _ _ _) h1 h4 hnt) ⟨callB_of 3 hts (gW wd_318) rfl rfl rfl (hts _ wd_1) (hts _ wd_315) hd_B_buildBitwise ⟨Nat.le_of_ble_eq_true rfl, Nat.le_of_ble_eq_true rfl⟩, hts _ wd_317, hts _ wd_p17⟩ XT_ok (fun _ _ _ => trivial) hK hP hD hS hA 0 0 rfl rfl rfl [0, 1] [0, 1, 2, 3, 4, 5, 6, 7, 8] [] [0, 1, 2, 3, 4, 5, 6, 7, 8] rfl rfl rfl rfl rfl (by decide) rfl rfl rfl hl.1 rfl (Nat.le_of_ble_eq_true rfl) d_B_term_77 ⟨Nat.zero_le _, Nat.zero_le _⟩ (st1 := []) rfl (fun H locs hP hD hS => ?_)
          refine lv_goto (tgt := 92) hx hb d_B_term_80 (by decide) ?_
          refine lv_aload_n hx hb d_B_term_92 rfl (lv_at hl 1 rfl) ?_
          refine lv_dup hx hb d_B_term_93 rfl ?_
          refine va_get (D := D) (ci := 0) (v := .int (nI nt)) (C := R_B) (T := F_B) (N := 14) hx hb hts in_B hown hK hP 0 rfl rfl 7 (by decide) (hts _ wd_54) (fun _ h9 => h9) rfl d_B_term_94 ?_
          refine lv_iconst (v := nI 1) hx hb d_B_term_97 (by decide) ?_
          refine n_add hx hb d_B_term_98 ?_
          refine va_put (D := D) (ci := 0) (v := .int (nI (nt + 1))) (ty := .int) (C := R_B) (T := F_B) (N := 14) hx hb hts in_B t_B tok_B nm_B hown hK hP hD hS 0 rfl rfl 7 (by decide) (hts _ wd_54) (fun _ h9 => h9) rfl (by decide +kernel) rfl rfl (Nat.le_of_ble_eq_true rfl) d_B_term_99 (fun H locs hP hD hS => ?_)
          have hP : va_P D cls (bsW ad cL cI nv nb (nt + 1) nf na lv nm vw vp (updN tw nt wd) ab am (oXor (50 + nt * 4) (50 + ka * 4) (50 + kb * 4) wd w)) H := hP
          have hD : va_D A (bsW ad cL cI nv nb (nt + 1) nf na lv nm vw vp (updN tw nt wd) ab am (oXor (50 + nt * 4) (50 + ka * 4) (50 + kb * 4) wd w)) := hD
          refine lv_aload_n hx hb d_B_term_102 rfl (lv_at hl 1 rfl) ?_
          refine va_get (D := D) (ci := 0) (v := .int (nI (nt + 1))) (C := R_B) (T := F_B) (N := 14) hx hb hts in_B hown hK hP 0 rfl rfl 7 (by decide) (hts _ wd_54) (fun _ h9 => h9) rfl d_B_term_103 ?_
          refine lv_iconst (v := nI 1) hx hb d_B_term_106 (by decide) ?_
          refine n_sub hx hb (by omega) d_B_term_107 ?_
          exact fn_iret hx hb hr hlocks hAe hK hP hD hS (by rw [Nat.add_sub_cancel]) d_B_term_108
      · exact absurd c_54 (by omega)
    · exact absurd c_30 (by omega)
  · exact absurd c_13 (by omega)
set_option maxHeartbeats 4000000 in
set_option maxRecDepth 100000 in
theorem c_B_term_8 (l : Launch) (D : va_G) (ad : Nat → Nat) (cL cI : ClassId) (nv nb nt nf na lv nm : Nat) (vw vp tw ab am : Nat → Nat) (w : Nat → Int64) (hok : Bok nv nb nt nf na lv nm vw vp tw ab am) (ka : Nat) (kb kc : Int32) (ha : ka < nt) (wd : Nat) (hw : pW nv nt nf vw tw (nI 8) (nI ka) kb kc = wd) (h1 : 1 ≤ wd) (h4 : wd ≤ 4) (hnt : nt < 50)  : Fn l y_B_term (wk y_B_term b_B_term 6 (some .int)) rm_B_term D cls [(cL, .long), (cI, .int)] [.ref (ad 0), .int (nI 8), .int (nI ka), .int kb, .int kc] (bsW ad cL cI nv nb nt nf na lv nm vw vp tw ab am w) XT (some (.int (nI nt))) (bsW ad cL cI nv nb (nt + 1) nf na lv nm vw vp (updN tw nt wd) ab am (oTurn (50 + nt * 4) (50 + ka * 4) wd w)) := by
  refine Fn.of (by decide) rfl (Nat.le_of_ble_eq_true rfl) ?_
  intro p e s m below meth c A ls hx hb hml hr hts0 hown hlocks hnm hP hK hD hS hA hAe hX hl
  have hts : ∀ w ∈ lw_ok, w.before _ s = true := fun w h => hts0 w (List.mem_cons_of_mem _ h)
  have hown : s.vm.findClass R_B = some m.cls := hown
  have hP : va_P D cls (bsW ad cL cI nv nb nt nf na lv nm vw vp tw ab am w) s.heap := hP
  have hl : lv_has ls 6 [(0, .ref (ad 0)), (1, .int (nI 8)), (2, .int (nI ka)), (3, .int kb), (4, .int kc)] := hl
  obtain ⟨o_nv, o_nb, o_nt, o_nf, o_na, o_lv, o_nm, o_vw, o_tw, o_am, o_ab⟩ := id hok
  refine lv_aload_n hx hb d_B_term_0 rfl (lv_at hl 0 rfl) ?_
  refine lv_iload_n hx hb d_B_term_1 rfl (lv_at hl 1 rfl) ?_
  refine lv_iload_n hx hb d_B_term_2 rfl (lv_at hl 2 rfl) ?_
  refine lv_iload_n hx hb d_B_term_3 rfl (lv_at hl 3 rfl) ?_
  refine lv_iload hx hb d_B_term_4 (lv_at hl 4 rfl) ?_
  refine fn_V (ws' := (bsW ad cL cI nv nb nt nf na lv nm vw vp tw ab am w)) (w1 := (bsW ad cL cI nv nb nt nf na lv nm vw vp tw ab am w)) (wc := (bsW ad cL cI nv nb nt nf na lv nm vw vp tw ab am w)) (wr := []) ⟨hx, hb, hml, hown, hts⟩ (c_B_widthToBuild l D ad cL cI nv nb nt nf na lv nm vw vp tw ab am w hok (nI 8) (nI ka) kb kc) ⟨callB_of 4 hts (gW wd_236) rfl rfl rfl (hts _ wd_1) (hts _ wd_233) hd_B_widthToBuild ⟨Nat.le_of_ble_eq_true rfl, Nat.le_of_ble_eq_true rfl⟩, hts _ wd_235, hts _ wd_p6⟩ XT_ok (fun _ _ _ => trivial) hK hP hD hS hA 0 0 rfl rfl rfl [0, 1] [0, 1, 2, 3, 4, 5, 6, 7, 8] [] [0, 1, 2, 3, 4, 5, 6, 7, 8] rfl rfl rfl rfl rfl (by decide) rfl rfl rfl hl.1 rfl (Nat.le_of_ble_eq_true rfl) d_B_term_6 ⟨Nat.zero_le _, Nat.zero_le _⟩ (st1 := [.int (nI (pW nv nt nf vw tw (nI 8) (nI ka) kb kc))]) rfl (fun H locs hP hD hS => ?_)
  rw [hw]
  refine lv_istore (lv' := [(5, .int (nI wd)), (0, .ref (ad 0)), (1, .int (nI 8)), (2, .int (nI ka)), (3, .int kb), (4, .int kc)]) hx hb d_B_term_9 hl (by decide) rfl (fun ls hl => ?_)
  refine lv_iload hx hb d_B_term_11 (lv_at hl 0 rfl) ?_
  refine z_if_ne (tgt := 24) hx hb (nI_toInt (by omega)) d_B_term_13 (by decide) (fun c_13 => ?_) (fun c_13 => ?_)
  · refine lv_aload_n hx hb d_B_term_24 rfl (lv_at hl 1 rfl) ?_
    refine va_get (D := D) (ci := 0) (v := .int (nI nt)) (C := R_B) (T := F_B) (N := 14) hx hb hts in_B hown hK hP 0 rfl rfl 7 (by decide) (hts _ wd_54) (fun _ h9 => h9) rfl d_B_term_25 ?_
    refine lv_bipush (v := nI 50) hx hb d_B_term_28 (by decide) ?_
    refine z_icmp_lt (tgt := 41) hx hb (nI_toInt (by omega)) (nI_toInt (by omega)) d_B_term_30 (by decide) (fun c_30 => ?_) (fun c_30 => ?_)
    · refine lv_aload_n hx hb d_B_term_41 rfl (lv_at hl 1 rfl) ?_
      refine va_get (D := D) (ci := 0) (v := .ref (ad 6)) (C := R_B) (T := F_B) (N := 14) hx hb hts in_B hown hK hP 0 rfl rfl 6 (by decide) (hts _ wd_53) (fun _ h9 => h9) rfl d_B_term_42 ?_
      refine lv_aload_n hx hb d_B_term_45 rfl (lv_at hl 1 rfl) ?_
      refine va_get (D := D) (ci := 0) (v := .int (nI nt)) (C := R_B) (T := F_B) (N := 14) hx hb hts in_B hown hK hP 0 rfl rfl 7 (by decide) (hts _ wd_54) (fun _ h9 => h9) rfl d_B_term_46 ?_
      refine lv_iload hx hb d_B_term_49 (lv_at hl 0 rfl) ?_
      refine n_iast hx hb hK hP hD hS 6 1 rfl rfl (i := nt) (by omega) (by omega) (updN_I _ _ _) d_B_term_51 (ws' := (bsW ad cL cI nv nb nt nf na lv nm vw vp (updN tw nt wd) ab am w)) rfl (fun H locs hP hD hS => ?_)
      refine lv_iload_n hx hb d_B_term_52 rfl (lv_at hl 2 rfl) ?_
      refine lv_iconst (v := nI 4) hx hb d_B_term_53 (by decide) ?_
      refine z_icmp_gt (tgt := 67) hx hb (nI_toInt (by omega)) (nI_toInt (by omega)) d_B_term_54 (by decide) (fun c_54 => ?_) (fun c_54 => ?_)
      · refine lv_iload_n hx hb d_B_term_67 rfl (lv_at hl 2 rfl) ?_
        refine lv_bipush (v := nI 8) hx hb d_B_term_68 (by decide) ?_
        refine z_icmp_gt (tgt := 83) hx hb (nI_toInt (by omega)) (nI_toInt (by omega)) d_B_term_70 (by decide) (fun c_70 => ?_) (fun c_70 => ?_)
        · exact absurd c_70 (by omega)
        · refine lv_aload_n hx hb d_B_term_73 rfl (lv_at hl 1 rfl) ?_
          refine lv_iload_n hx hb d_B_term_74 rfl (lv_at hl 2 rfl) ?_
          refine lv_iload_n hx hb d_B_term_75 rfl (lv_at hl 3 rfl) ?_
          refine lv_iload_n hx hb d_B_term_76 rfl (lv_at hl 4 rfl) ?_
          refine fn_V (ws' := (bsW ad cL cI nv nb nt nf na lv nm vw vp (updN tw nt wd) ab am (oTurn (50 + nt * 4) (50 + ka * 4) wd w))) (w1 := (bsW ad cL cI nv nb nt nf na lv nm vw vp (updN tw nt wd) ab am (oTurn (50 + nt * 4) (50 + ka * 4) wd w))) (wc := (bsW ad cL cI nv nb nt nf na lv nm vw vp (updN tw nt wd) ab am w)) (wr := []) ⟨hx, hb, hml, hown, hts⟩ (c_B_buildBitwise_8 l D ad cL cI nv nb nt nf na lv nm vw vp (updN tw nt wd) ab am w (Bok_tw hok wd) ka kb ha wd (updN_self _ _ _) h1 h4 hnt) ⟨callB_of 3 hts (gW wd_318) rfl rfl rfl (hts _ wd_1) (hts _ wd_315) hd_B_buildBitwise ⟨Nat.le_of_ble_eq_true rfl, Nat.le_of_ble_eq_true rfl⟩, hts _ wd_317, hts _ wd_p17⟩ XT_ok (fun _ _ _ => trivial) hK hP hD hS hA 0 0 rfl rfl rfl [0, 1] [0, 1, 2, 3, 4, 5, 6, 7, 8] [] [0, 1, 2, 3, 4, 5, 6, 7, 8] rfl rfl rfl rfl rfl (by decide) rfl rfl rfl hl.1 rfl (Nat.le_of_ble_eq_true rfl) d_B_term_77 ⟨Nat.zero_le _, Nat.zero_le _⟩ (st1 := []) rfl (fun H locs hP hD hS => ?_)
          refine lv_goto (tgt := 92) hx hb d_B_term_80 (by decide) ?_
          refine lv_aload_n hx hb d_B_term_92 rfl (lv_at hl 1 rfl) ?_
          refine lv_dup hx hb d_B_term_93 rfl ?_
          refine va_get (D := D) (ci := 0) (v := .int (nI nt)) (C := R_B) (T := F_B) (N := 14) hx hb hts in_B hown hK hP 0 rfl rfl 7 (by decide) (hts _ wd_54) (fun _ h9 => h9) rfl d_B_term_94 ?_
          refine lv_iconst (v := nI 1) hx hb d_B_term_97 (by decide) ?_
          refine n_add hx hb d_B_term_98 ?_
          refine va_put (D := D) (ci := 0) (v := .int (nI (nt + 1))) (ty := .int) (C := R_B) (T := F_B) (N := 14) hx hb hts in_B t_B tok_B nm_B hown hK hP hD hS 0 rfl rfl 7 (by decide) (hts _ wd_54) (fun _ h9 => h9) rfl (by decide +kernel) rfl rfl (Nat.le_of_ble_eq_true rfl) d_B_term_99 (fun H locs hP hD hS => ?_)
          have hP : va_P D cls (bsW ad cL cI nv nb (nt + 1) nf na lv nm vw vp (updN tw nt wd) ab am (oTurn (50 + nt * 4) (50 + ka * 4) wd w)) H := hP
          have hD : va_D A (bsW ad cL cI nv nb (nt + 1) nf na lv nm vw vp (updN tw nt wd) ab am (oTurn (50 + nt * 4) (50 + ka * 4) wd w)) := hD
          refine lv_aload_n hx hb d_B_term_102 rfl (lv_at hl 1 rfl) ?_
          refine va_get (D := D) (ci := 0) (v := .int (nI (nt + 1))) (C := R_B) (T := F_B) (N := 14) hx hb hts in_B hown hK hP 0 rfl rfl 7 (by decide) (hts _ wd_54) (fun _ h9 => h9) rfl d_B_term_103 ?_
          refine lv_iconst (v := nI 1) hx hb d_B_term_106 (by decide) ?_
          refine n_sub hx hb (by omega) d_B_term_107 ?_
          exact fn_iret hx hb hr hlocks hAe hK hP hD hS (by rw [Nat.add_sub_cancel]) d_B_term_108
      · exact absurd c_54 (by omega)
    · exact absurd c_30 (by omega)
  · exact absurd c_13 (by omega)
set_option maxHeartbeats 4000000 in
set_option maxRecDepth 100000 in
theorem c_B_term_9 (l : Launch) (D : va_G) (ad : Nat → Nat) (cL cI : ClassId) (nv nb nt nf na lv nm : Nat) (vw vp tw ab am : Nat → Nat) (w : Nat → Int64) (hok : Bok nv nb nt nf na lv nm vw vp tw ab am) (ka kb : Nat) (kc : Int32) (ha : ka < nt) (hb2 : kb ≤ 4) (wd : Nat) (hw : pW nv nt nf vw tw (nI 9) (nI ka) (nI kb) kc = wd) (h1 : 1 ≤ wd) (h4 : wd ≤ 4) (hnt : nt < 50)  : Fn l y_B_term (wk y_B_term b_B_term 6 (some .int)) rm_B_term D cls [(cL, .long), (cI, .int)] [.ref (ad 0), .int (nI 9), .int (nI ka), .int (nI kb), .int kc] (bsW ad cL cI nv nb nt nf na lv nm vw vp tw ab am w) XT (some (.int (nI nt))) (bsW ad cL cI nv nb (nt + 1) nf na lv nm vw vp (updN tw nt wd) ab am (cUpN (50 + nt * 4) (50 + ka * 4) kb wd w)) := by
  refine Fn.of (by decide) rfl (Nat.le_of_ble_eq_true rfl) ?_
  intro p e s m below meth c A ls hx hb hml hr hts0 hown hlocks hnm hP hK hD hS hA hAe hX hl
  have hts : ∀ w ∈ lw_ok, w.before _ s = true := fun w h => hts0 w (List.mem_cons_of_mem _ h)
  have hown : s.vm.findClass R_B = some m.cls := hown
  have hP : va_P D cls (bsW ad cL cI nv nb nt nf na lv nm vw vp tw ab am w) s.heap := hP
  have hl : lv_has ls 6 [(0, .ref (ad 0)), (1, .int (nI 9)), (2, .int (nI ka)), (3, .int (nI kb)), (4, .int kc)] := hl
  obtain ⟨o_nv, o_nb, o_nt, o_nf, o_na, o_lv, o_nm, o_vw, o_tw, o_am, o_ab⟩ := id hok
  refine lv_aload_n hx hb d_B_term_0 rfl (lv_at hl 0 rfl) ?_
  refine lv_iload_n hx hb d_B_term_1 rfl (lv_at hl 1 rfl) ?_
  refine lv_iload_n hx hb d_B_term_2 rfl (lv_at hl 2 rfl) ?_
  refine lv_iload_n hx hb d_B_term_3 rfl (lv_at hl 3 rfl) ?_
  refine lv_iload hx hb d_B_term_4 (lv_at hl 4 rfl) ?_
  refine fn_V (ws' := (bsW ad cL cI nv nb nt nf na lv nm vw vp tw ab am w)) (w1 := (bsW ad cL cI nv nb nt nf na lv nm vw vp tw ab am w)) (wc := (bsW ad cL cI nv nb nt nf na lv nm vw vp tw ab am w)) (wr := []) ⟨hx, hb, hml, hown, hts⟩ (c_B_widthToBuild l D ad cL cI nv nb nt nf na lv nm vw vp tw ab am w hok (nI 9) (nI ka) (nI kb) kc) ⟨callB_of 4 hts (gW wd_236) rfl rfl rfl (hts _ wd_1) (hts _ wd_233) hd_B_widthToBuild ⟨Nat.le_of_ble_eq_true rfl, Nat.le_of_ble_eq_true rfl⟩, hts _ wd_235, hts _ wd_p6⟩ XT_ok (fun _ _ _ => trivial) hK hP hD hS hA 0 0 rfl rfl rfl [0, 1] [0, 1, 2, 3, 4, 5, 6, 7, 8] [] [0, 1, 2, 3, 4, 5, 6, 7, 8] rfl rfl rfl rfl rfl (by decide) rfl rfl rfl hl.1 rfl (Nat.le_of_ble_eq_true rfl) d_B_term_6 ⟨Nat.zero_le _, Nat.zero_le _⟩ (st1 := [.int (nI (pW nv nt nf vw tw (nI 9) (nI ka) (nI kb) kc))]) rfl (fun H locs hP hD hS => ?_)
  rw [hw]
  refine lv_istore (lv' := [(5, .int (nI wd)), (0, .ref (ad 0)), (1, .int (nI 9)), (2, .int (nI ka)), (3, .int (nI kb)), (4, .int kc)]) hx hb d_B_term_9 hl (by decide) rfl (fun ls hl => ?_)
  refine lv_iload hx hb d_B_term_11 (lv_at hl 0 rfl) ?_
  refine z_if_ne (tgt := 24) hx hb (nI_toInt (by omega)) d_B_term_13 (by decide) (fun c_13 => ?_) (fun c_13 => ?_)
  · refine lv_aload_n hx hb d_B_term_24 rfl (lv_at hl 1 rfl) ?_
    refine va_get (D := D) (ci := 0) (v := .int (nI nt)) (C := R_B) (T := F_B) (N := 14) hx hb hts in_B hown hK hP 0 rfl rfl 7 (by decide) (hts _ wd_54) (fun _ h9 => h9) rfl d_B_term_25 ?_
    refine lv_bipush (v := nI 50) hx hb d_B_term_28 (by decide) ?_
    refine z_icmp_lt (tgt := 41) hx hb (nI_toInt (by omega)) (nI_toInt (by omega)) d_B_term_30 (by decide) (fun c_30 => ?_) (fun c_30 => ?_)
    · refine lv_aload_n hx hb d_B_term_41 rfl (lv_at hl 1 rfl) ?_
      refine va_get (D := D) (ci := 0) (v := .ref (ad 6)) (C := R_B) (T := F_B) (N := 14) hx hb hts in_B hown hK hP 0 rfl rfl 6 (by decide) (hts _ wd_53) (fun _ h9 => h9) rfl d_B_term_42 ?_
      refine lv_aload_n hx hb d_B_term_45 rfl (lv_at hl 1 rfl) ?_
      refine va_get (D := D) (ci := 0) (v := .int (nI nt)) (C := R_B) (T := F_B) (N := 14) hx hb hts in_B hown hK hP 0 rfl rfl 7 (by decide) (hts _ wd_54) (fun _ h9 => h9) rfl d_B_term_46 ?_
      refine lv_iload hx hb d_B_term_49 (lv_at hl 0 rfl) ?_
      refine n_iast hx hb hK hP hD hS 6 1 rfl rfl (i := nt) (by omega) (by omega) (updN_I _ _ _) d_B_term_51 (ws' := (bsW ad cL cI nv nb nt nf na lv nm vw vp (updN tw nt wd) ab am w)) rfl (fun H locs hP hD hS => ?_)
      refine lv_iload_n hx hb d_B_term_52 rfl (lv_at hl 2 rfl) ?_
      refine lv_iconst (v := nI 4) hx hb d_B_term_53 (by decide) ?_
      refine z_icmp_gt (tgt := 67) hx hb (nI_toInt (by omega)) (nI_toInt (by omega)) d_B_term_54 (by decide) (fun c_54 => ?_) (fun c_54 => ?_)
      · refine lv_iload_n hx hb d_B_term_67 rfl (lv_at hl 2 rfl) ?_
        refine lv_bipush (v := nI 8) hx hb d_B_term_68 (by decide) ?_
        refine z_icmp_gt (tgt := 83) hx hb (nI_toInt (by omega)) (nI_toInt (by omega)) d_B_term_70 (by decide) (fun c_70 => ?_) (fun c_70 => ?_)
        · refine lv_aload_n hx hb d_B_term_83 rfl (lv_at hl 1 rfl) ?_
          refine lv_iload_n hx hb d_B_term_84 rfl (lv_at hl 2 rfl) ?_
          refine lv_iload_n hx hb d_B_term_85 rfl (lv_at hl 3 rfl) ?_
          refine lv_iload_n hx hb d_B_term_86 rfl (lv_at hl 4 rfl) ?_
          refine lv_iload hx hb d_B_term_87 (lv_at hl 5 rfl) ?_
          refine fn_V (ws' := (bsW ad cL cI nv nb nt nf na lv nm vw vp (updN tw nt wd) ab am (cUpN (50 + nt * 4) (50 + ka * 4) kb wd w))) (w1 := (bsW ad cL cI nv nb nt nf na lv nm vw vp (updN tw nt wd) ab am (cUpN (50 + nt * 4) (50 + ka * 4) kb wd w))) (wc := (bsW ad cL cI nv nb nt nf na lv nm vw vp (updN tw nt wd) ab am w)) (wr := []) ⟨hx, hb, hml, hown, hts⟩ (c_B_buildArranged_9 l D ad cL cI nv nb nt nf na lv nm vw vp (updN tw nt wd) ab am w (Bok_tw hok wd) ka kb kc ha hb2 wd (updN_self _ _ _) h1 h4 hnt) ⟨callB_of 4 hts (gW wd_325) rfl rfl rfl (hts _ wd_1) (hts _ wd_322) hd_B_buildArranged ⟨Nat.le_of_ble_eq_true rfl, Nat.le_of_ble_eq_true rfl⟩, hts _ wd_324, hts _ wd_p18⟩ XT_ok (fun _ _ _ => trivial) hK hP hD hS hA 0 0 rfl rfl rfl [0, 1] [0, 1, 2, 3, 4, 5, 6, 7, 8] [] [0, 1, 2, 3, 4, 5, 6, 7, 8] rfl rfl rfl rfl rfl (by decide) rfl rfl rfl hl.1 rfl (Nat.le_of_ble_eq_true rfl) d_B_term_89 ⟨Nat.zero_le _, Nat.zero_le _⟩ (st1 := []) rfl (fun H locs hP hD hS => ?_)
          refine lv_aload_n hx hb d_B_term_92 rfl (lv_at hl 1 rfl) ?_
          refine lv_dup hx hb d_B_term_93 rfl ?_
          refine va_get (D := D) (ci := 0) (v := .int (nI nt)) (C := R_B) (T := F_B) (N := 14) hx hb hts in_B hown hK hP 0 rfl rfl 7 (by decide) (hts _ wd_54) (fun _ h9 => h9) rfl d_B_term_94 ?_
          refine lv_iconst (v := nI 1) hx hb d_B_term_97 (by decide) ?_
          refine n_add hx hb d_B_term_98 ?_
          refine va_put (D := D) (ci := 0) (v := .int (nI (nt + 1))) (ty := .int) (C := R_B) (T := F_B) (N := 14) hx hb hts in_B t_B tok_B nm_B hown hK hP hD hS 0 rfl rfl 7 (by decide) (hts _ wd_54) (fun _ h9 => h9) rfl (by decide +kernel) rfl rfl (Nat.le_of_ble_eq_true rfl) d_B_term_99 (fun H locs hP hD hS => ?_)
          have hP : va_P D cls (bsW ad cL cI nv nb (nt + 1) nf na lv nm vw vp (updN tw nt wd) ab am (cUpN (50 + nt * 4) (50 + ka * 4) kb wd w)) H := hP
          have hD : va_D A (bsW ad cL cI nv nb (nt + 1) nf na lv nm vw vp (updN tw nt wd) ab am (cUpN (50 + nt * 4) (50 + ka * 4) kb wd w)) := hD
          refine lv_aload_n hx hb d_B_term_102 rfl (lv_at hl 1 rfl) ?_
          refine va_get (D := D) (ci := 0) (v := .int (nI (nt + 1))) (C := R_B) (T := F_B) (N := 14) hx hb hts in_B hown hK hP 0 rfl rfl 7 (by decide) (hts _ wd_54) (fun _ h9 => h9) rfl d_B_term_103 ?_
          refine lv_iconst (v := nI 1) hx hb d_B_term_106 (by decide) ?_
          refine n_sub hx hb (by omega) d_B_term_107 ?_
          exact fn_iret hx hb hr hlocks hAe hK hP hD hS (by rw [Nat.add_sub_cancel]) d_B_term_108
        · exact absurd c_70 (by omega)
      · exact absurd c_54 (by omega)
    · exact absurd c_30 (by omega)
  · exact absurd c_13 (by omega)
set_option maxHeartbeats 4000000 in
set_option maxRecDepth 100000 in
theorem c_B_term_10 (l : Launch) (D : va_G) (ad : Nat → Nat) (cL cI : ClassId) (nv nb nt nf na lv nm : Nat) (vw vp tw ab am : Nat → Nat) (w : Nat → Int64) (hok : Bok nv nb nt nf na lv nm vw vp tw ab am) (ka kb : Nat) (kc : Int32) (ha : ka < nt) (hb2 : kb ≤ 4) (wd : Nat) (hw : pW nv nt nf vw tw (nI 10) (nI ka) (nI kb) kc = wd) (h1 : 1 ≤ wd) (h4 : wd ≤ 4) (hnt : nt < 50)  : Fn l y_B_term (wk y_B_term b_B_term 6 (some .int)) rm_B_term D cls [(cL, .long), (cI, .int)] [.ref (ad 0), .int (nI 10), .int (nI ka), .int (nI kb), .int kc] (bsW ad cL cI nv nb nt nf na lv nm vw vp tw ab am w) XT (some (.int (nI nt))) (bsW ad cL cI nv nb (nt + 1) nf na lv nm vw vp (updN tw nt wd) ab am (cDownN (50 + nt * 4) (50 + ka * 4) wd kb false wd w)) := by
  refine Fn.of (by decide) rfl (Nat.le_of_ble_eq_true rfl) ?_
  intro p e s m below meth c A ls hx hb hml hr hts0 hown hlocks hnm hP hK hD hS hA hAe hX hl
  have hts : ∀ w ∈ lw_ok, w.before _ s = true := fun w h => hts0 w (List.mem_cons_of_mem _ h)
  have hown : s.vm.findClass R_B = some m.cls := hown
  have hP : va_P D cls (bsW ad cL cI nv nb nt nf na lv nm vw vp tw ab am w) s.heap := hP
  have hl : lv_has ls 6 [(0, .ref (ad 0)), (1, .int (nI 10)), (2, .int (nI ka)), (3, .int (nI kb)), (4, .int kc)] := hl
  obtain ⟨o_nv, o_nb, o_nt, o_nf, o_na, o_lv, o_nm, o_vw, o_tw, o_am, o_ab⟩ := id hok
  refine lv_aload_n hx hb d_B_term_0 rfl (lv_at hl 0 rfl) ?_
  refine lv_iload_n hx hb d_B_term_1 rfl (lv_at hl 1 rfl) ?_
  refine lv_iload_n hx hb d_B_term_2 rfl (lv_at hl 2 rfl) ?_
  refine lv_iload_n hx hb d_B_term_3 rfl (lv_at hl 3 rfl) ?_
  refine lv_iload hx hb d_B_term_4 (lv_at hl 4 rfl) ?_
  refine fn_V (ws' := (bsW ad cL cI nv nb nt nf na lv nm vw vp tw ab am w)) (w1 := (bsW ad cL cI nv nb nt nf na lv nm vw vp tw ab am w)) (wc := (bsW ad cL cI nv nb nt nf na lv nm vw vp tw ab am w)) (wr := []) ⟨hx, hb, hml, hown, hts⟩ (c_B_widthToBuild l D ad cL cI nv nb nt nf na lv nm vw vp tw ab am w hok (nI 10) (nI ka) (nI kb) kc) ⟨callB_of 4 hts (gW wd_236) rfl rfl rfl (hts _ wd_1) (hts _ wd_233) hd_B_widthToBuild ⟨Nat.le_of_ble_eq_true rfl, Nat.le_of_ble_eq_true rfl⟩, hts _ wd_235, hts _ wd_p6⟩ XT_ok (fun _ _ _ => trivial) hK hP hD hS hA 0 0 rfl rfl rfl [0, 1] [0, 1, 2, 3, 4, 5, 6, 7, 8] [] [0, 1, 2, 3, 4, 5, 6, 7, 8] rfl rfl rfl rfl rfl (by decide) rfl rfl rfl hl.1 rfl (Nat.le_of_ble_eq_true rfl) d_B_term_6 ⟨Nat.zero_le _, Nat.zero_le _⟩ (st1 := [.int (nI (pW nv nt nf vw tw (nI 10) (nI ka) (nI kb) kc))]) rfl (fun H locs hP hD hS => ?_)
  rw [hw]
  refine lv_istore (lv' := [(5, .int (nI wd)), (0, .ref (ad 0)), (1, .int (nI 10)), (2, .int (nI ka)), (3, .int (nI kb)), (4, .int kc)]) hx hb d_B_term_9 hl (by decide) rfl (fun ls hl => ?_)
  refine lv_iload hx hb d_B_term_11 (lv_at hl 0 rfl) ?_
  refine z_if_ne (tgt := 24) hx hb (nI_toInt (by omega)) d_B_term_13 (by decide) (fun c_13 => ?_) (fun c_13 => ?_)
  · refine lv_aload_n hx hb d_B_term_24 rfl (lv_at hl 1 rfl) ?_
    refine va_get (D := D) (ci := 0) (v := .int (nI nt)) (C := R_B) (T := F_B) (N := 14) hx hb hts in_B hown hK hP 0 rfl rfl 7 (by decide) (hts _ wd_54) (fun _ h9 => h9) rfl d_B_term_25 ?_
    refine lv_bipush (v := nI 50) hx hb d_B_term_28 (by decide) ?_
    refine z_icmp_lt (tgt := 41) hx hb (nI_toInt (by omega)) (nI_toInt (by omega)) d_B_term_30 (by decide) (fun c_30 => ?_) (fun c_30 => ?_)
    · refine lv_aload_n hx hb d_B_term_41 rfl (lv_at hl 1 rfl) ?_
      refine va_get (D := D) (ci := 0) (v := .ref (ad 6)) (C := R_B) (T := F_B) (N := 14) hx hb hts in_B hown hK hP 0 rfl rfl 6 (by decide) (hts _ wd_53) (fun _ h9 => h9) rfl d_B_term_42 ?_
      refine lv_aload_n hx hb d_B_term_45 rfl (lv_at hl 1 rfl) ?_
      refine va_get (D := D) (ci := 0) (v := .int (nI nt)) (C := R_B) (T := F_B) (N := 14) hx hb hts in_B hown hK hP 0 rfl rfl 7 (by decide) (hts _ wd_54) (fun _ h9 => h9) rfl d_B_term_46 ?_
      refine lv_iload hx hb d_B_term_49 (lv_at hl 0 rfl) ?_
      refine n_iast hx hb hK hP hD hS 6 1 rfl rfl (i := nt) (by omega) (by omega) (updN_I _ _ _) d_B_term_51 (ws' := (bsW ad cL cI nv nb nt nf na lv nm vw vp (updN tw nt wd) ab am w)) rfl (fun H locs hP hD hS => ?_)
      refine lv_iload_n hx hb d_B_term_52 rfl (lv_at hl 2 rfl) ?_
      refine lv_iconst (v := nI 4) hx hb d_B_term_53 (by decide) ?_
      refine z_icmp_gt (tgt := 67) hx hb (nI_toInt (by omega)) (nI_toInt (by omega)) d_B_term_54 (by decide) (fun c_54 => ?_) (fun c_54 => ?_)
      · refine lv_iload_n hx hb d_B_term_67 rfl (lv_at hl 2 rfl) ?_
        refine lv_bipush (v := nI 8) hx hb d_B_term_68 (by decide) ?_
        refine z_icmp_gt (tgt := 83) hx hb (nI_toInt (by omega)) (nI_toInt (by omega)) d_B_term_70 (by decide) (fun c_70 => ?_) (fun c_70 => ?_)
        · refine lv_aload_n hx hb d_B_term_83 rfl (lv_at hl 1 rfl) ?_
          refine lv_iload_n hx hb d_B_term_84 rfl (lv_at hl 2 rfl) ?_
          refine lv_iload_n hx hb d_B_term_85 rfl (lv_at hl 3 rfl) ?_
          refine lv_iload_n hx hb d_B_term_86 rfl (lv_at hl 4 rfl) ?_
          refine lv_iload hx hb d_B_term_87 (lv_at hl 5 rfl) ?_
          refine fn_V (ws' := (bsW ad cL cI nv nb nt nf na lv nm vw vp (updN tw nt wd) ab am (cDownN (50 + nt * 4) (50 + ka * 4) wd kb false wd w))) (w1 := (bsW ad cL cI nv nb nt nf na lv nm vw vp (updN tw nt wd) ab am (cDownN (50 + nt * 4) (50 + ka * 4) wd kb false wd w))) (wc := (bsW ad cL cI nv nb nt nf na lv nm vw vp (updN tw nt wd) ab am w)) (wr := []) ⟨hx, hb, hml, hown, hts⟩ (c_B_buildArranged_10 l D ad cL cI nv nb nt nf na lv nm vw vp (updN tw nt wd) ab am w (Bok_tw hok wd) ka kb kc ha hb2 wd (updN_self _ _ _) h1 h4 hnt) ⟨callB_of 4 hts (gW wd_325) rfl rfl rfl (hts _ wd_1) (hts _ wd_322) hd_B_buildArranged ⟨Nat.le_of_ble_eq_true rfl, Nat.le_of_ble_eq_true rfl⟩, hts _ wd_324, hts _ wd_p18⟩ XT_ok (fun _ _ _ => trivial) hK hP hD hS hA 0 0 rfl rfl rfl [0, 1] [0, 1, 2, 3, 4, 5, 6, 7, 8] [] [0, 1, 2, 3, 4, 5, 6, 7, 8] rfl rfl rfl rfl rfl (by decide) rfl rfl rfl hl.1 rfl (Nat.le_of_ble_eq_true rfl) d_B_term_89 ⟨Nat.zero_le _, Nat.zero_le _⟩ (st1 := []) rfl (fun H locs hP hD hS => ?_)
          refine lv_aload_n hx hb d_B_term_92 rfl (lv_at hl 1 rfl) ?_
          refine lv_dup hx hb d_B_term_93 rfl ?_
          refine va_get (D := D) (ci := 0) (v := .int (nI nt)) (C := R_B) (T := F_B) (N := 14) hx hb hts in_B hown hK hP 0 rfl rfl 7 (by decide) (hts _ wd_54) (fun _ h9 => h9) rfl d_B_term_94 ?_
          refine lv_iconst (v := nI 1) hx hb d_B_term_97 (by decide) ?_
          refine n_add hx hb d_B_term_98 ?_
          refine va_put (D := D) (ci := 0) (v := .int (nI (nt + 1))) (ty := .int) (C := R_B) (T := F_B) (N := 14) hx hb hts in_B t_B tok_B nm_B hown hK hP hD hS 0 rfl rfl 7 (by decide) (hts _ wd_54) (fun _ h9 => h9) rfl (by decide +kernel) rfl rfl (Nat.le_of_ble_eq_true rfl) d_B_term_99 (fun H locs hP hD hS => ?_)
          have hP : va_P D cls (bsW ad cL cI nv nb (nt + 1) nf na lv nm vw vp (updN tw nt wd) ab am (cDownN (50 + nt * 4) (50 + ka * 4) wd kb false wd w)) H := hP
          have hD : va_D A (bsW ad cL cI nv nb (nt + 1) nf na lv nm vw vp (updN tw nt wd) ab am (cDownN (50 + nt * 4) (50 + ka * 4) wd kb false wd w)) := hD
          refine lv_aload_n hx hb d_B_term_102 rfl (lv_at hl 1 rfl) ?_
          refine va_get (D := D) (ci := 0) (v := .int (nI (nt + 1))) (C := R_B) (T := F_B) (N := 14) hx hb hts in_B hown hK hP 0 rfl rfl 7 (by decide) (hts _ wd_54) (fun _ h9 => h9) rfl d_B_term_103 ?_
          refine lv_iconst (v := nI 1) hx hb d_B_term_106 (by decide) ?_
          refine n_sub hx hb (by omega) d_B_term_107 ?_
          exact fn_iret hx hb hr hlocks hAe hK hP hD hS (by rw [Nat.add_sub_cancel]) d_B_term_108
        · exact absurd c_70 (by omega)
      · exact absurd c_54 (by omega)
    · exact absurd c_30 (by omega)
  · exact absurd c_13 (by omega)
set_option maxHeartbeats 4000000 in
set_option maxRecDepth 100000 in
theorem c_B_term_11 (l : Launch) (D : va_G) (ad : Nat → Nat) (cL cI : ClassId) (nv nb nt nf na lv nm : Nat) (vw vp tw ab am : Nat → Nat) (w : Nat → Int64) (hok : Bok nv nb nt nf na lv nm vw vp tw ab am) (ka kb : Nat) (kc : Int32) (ha : ka < nt) (hb2 : kb ≤ 4) (wd : Nat) (hw : pW nv nt nf vw tw (nI 11) (nI ka) (nI kb) kc = wd) (h1 : 1 ≤ wd) (h4 : wd ≤ 4) (hnt : nt < 50)  : Fn l y_B_term (wk y_B_term b_B_term 6 (some .int)) rm_B_term D cls [(cL, .long), (cI, .int)] [.ref (ad 0), .int (nI 11), .int (nI ka), .int (nI kb), .int kc] (bsW ad cL cI nv nb nt nf na lv nm vw vp tw ab am w) XT (some (.int (nI nt))) (bsW ad cL cI nv nb (nt + 1) nf na lv nm vw vp (updN tw nt wd) ab am (cDownN (50 + nt * 4) (50 + ka * 4) wd kb true wd w)) := by
  refine Fn.of (by decide) rfl (Nat.le_of_ble_eq_true rfl) ?_
  intro p e s m below meth c A ls hx hb hml hr hts0 hown hlocks hnm hP hK hD hS hA hAe hX hl
  have hts : ∀ w ∈ lw_ok, w.before _ s = true := fun w h => hts0 w (List.mem_cons_of_mem _ h)
  have hown : s.vm.findClass R_B = some m.cls := hown
  have hP : va_P D cls (bsW ad cL cI nv nb nt nf na lv nm vw vp tw ab am w) s.heap := hP
  have hl : lv_has ls 6 [(0, .ref (ad 0)), (1, .int (nI 11)), (2, .int (nI ka)), (3, .int (nI kb)), (4, .int kc)] := hl
  obtain ⟨o_nv, o_nb, o_nt, o_nf, o_na, o_lv, o_nm, o_vw, o_tw, o_am, o_ab⟩ := id hok
  refine lv_aload_n hx hb d_B_term_0 rfl (lv_at hl 0 rfl) ?_
  refine lv_iload_n hx hb d_B_term_1 rfl (lv_at hl 1 rfl) ?_
  refine lv_iload_n hx hb d_B_term_2 rfl (lv_at hl 2 rfl) ?_
  refine lv_iload_n hx hb d_B_term_3 rfl (lv_at hl 3 rfl) ?_
  refine lv_iload hx hb d_B_term_4 (lv_at hl 4 rfl) ?_
  refine fn_V (ws' := (bsW ad cL cI nv nb nt nf na lv nm vw vp tw ab am w)) (w1 := (bsW ad cL cI nv nb nt nf na lv nm vw vp tw ab am w)) (wc := (bsW ad cL cI nv nb nt nf na lv nm vw vp tw ab am w)) (wr := []) ⟨hx, hb, hml, hown, hts⟩ (c_B_widthToBuild l D ad cL cI nv nb nt nf na lv nm vw vp tw ab am w hok (nI 11) (nI ka) (nI kb) kc) ⟨callB_of 4 hts (gW wd_236) rfl rfl rfl (hts _ wd_1) (hts _ wd_233) hd_B_widthToBuild ⟨Nat.le_of_ble_eq_true rfl, Nat.le_of_ble_eq_true rfl⟩, hts _ wd_235, hts _ wd_p6⟩ XT_ok (fun _ _ _ => trivial) hK hP hD hS hA 0 0 rfl rfl rfl [0, 1] [0, 1, 2, 3, 4, 5, 6, 7, 8] [] [0, 1, 2, 3, 4, 5, 6, 7, 8] rfl rfl rfl rfl rfl (by decide) rfl rfl rfl hl.1 rfl (Nat.le_of_ble_eq_true rfl) d_B_term_6 ⟨Nat.zero_le _, Nat.zero_le _⟩ (st1 := [.int (nI (pW nv nt nf vw tw (nI 11) (nI ka) (nI kb) kc))]) rfl (fun H locs hP hD hS => ?_)
  rw [hw]
  refine lv_istore (lv' := [(5, .int (nI wd)), (0, .ref (ad 0)), (1, .int (nI 11)), (2, .int (nI ka)), (3, .int (nI kb)), (4, .int kc)]) hx hb d_B_term_9 hl (by decide) rfl (fun ls hl => ?_)
  refine lv_iload hx hb d_B_term_11 (lv_at hl 0 rfl) ?_
  refine z_if_ne (tgt := 24) hx hb (nI_toInt (by omega)) d_B_term_13 (by decide) (fun c_13 => ?_) (fun c_13 => ?_)
  · refine lv_aload_n hx hb d_B_term_24 rfl (lv_at hl 1 rfl) ?_
    refine va_get (D := D) (ci := 0) (v := .int (nI nt)) (C := R_B) (T := F_B) (N := 14) hx hb hts in_B hown hK hP 0 rfl rfl 7 (by decide) (hts _ wd_54) (fun _ h9 => h9) rfl d_B_term_25 ?_
    refine lv_bipush (v := nI 50) hx hb d_B_term_28 (by decide) ?_
    refine z_icmp_lt (tgt := 41) hx hb (nI_toInt (by omega)) (nI_toInt (by omega)) d_B_term_30 (by decide) (fun c_30 => ?_) (fun c_30 => ?_)
    · refine lv_aload_n hx hb d_B_term_41 rfl (lv_at hl 1 rfl) ?_
      refine va_get (D := D) (ci := 0) (v := .ref (ad 6)) (C := R_B) (T := F_B) (N := 14) hx hb hts in_B hown hK hP 0 rfl rfl 6 (by decide) (hts _ wd_53) (fun _ h9 => h9) rfl d_B_term_42 ?_
      refine lv_aload_n hx hb d_B_term_45 rfl (lv_at hl 1 rfl) ?_
      refine va_get (D := D) (ci := 0) (v := .int (nI nt)) (C := R_B) (T := F_B) (N := 14) hx hb hts in_B hown hK hP 0 rfl rfl 7 (by decide) (hts _ wd_54) (fun _ h9 => h9) rfl d_B_term_46 ?_
      refine lv_iload hx hb d_B_term_49 (lv_at hl 0 rfl) ?_
      refine n_iast hx hb hK hP hD hS 6 1 rfl rfl (i := nt) (by omega) (by omega) (updN_I _ _ _) d_B_term_51 (ws' := (bsW ad cL cI nv nb nt nf na lv nm vw vp (updN tw nt wd) ab am w)) rfl (fun H locs hP hD hS => ?_)
      refine lv_iload_n hx hb d_B_term_52 rfl (lv_at hl 2 rfl) ?_
      refine lv_iconst (v := nI 4) hx hb d_B_term_53 (by decide) ?_
      refine z_icmp_gt (tgt := 67) hx hb (nI_toInt (by omega)) (nI_toInt (by omega)) d_B_term_54 (by decide) (fun c_54 => ?_) (fun c_54 => ?_)
      · refine lv_iload_n hx hb d_B_term_67 rfl (lv_at hl 2 rfl) ?_
        refine lv_bipush (v := nI 8) hx hb d_B_term_68 (by decide) ?_
        refine z_icmp_gt (tgt := 83) hx hb (nI_toInt (by omega)) (nI_toInt (by omega)) d_B_term_70 (by decide) (fun c_70 => ?_) (fun c_70 => ?_)
        · refine lv_aload_n hx hb d_B_term_83 rfl (lv_at hl 1 rfl) ?_
          refine lv_iload_n hx hb d_B_term_84 rfl (lv_at hl 2 rfl) ?_
          refine lv_iload_n hx hb d_B_term_85 rfl (lv_at hl 3 rfl) ?_
          refine lv_iload_n hx hb d_B_term_86 rfl (lv_at hl 4 rfl) ?_
          refine lv_iload hx hb d_B_term_87 (lv_at hl 5 rfl) ?_
          refine fn_V (ws' := (bsW ad cL cI nv nb nt nf na lv nm vw vp (updN tw nt wd) ab am (cDownN (50 + nt * 4) (50 + ka * 4) wd kb true wd w))) (w1 := (bsW ad cL cI nv nb nt nf na lv nm vw vp (updN tw nt wd) ab am (cDownN (50 + nt * 4) (50 + ka * 4) wd kb true wd w))) (wc := (bsW ad cL cI nv nb nt nf na lv nm vw vp (updN tw nt wd) ab am w)) (wr := []) ⟨hx, hb, hml, hown, hts⟩ (c_B_buildArranged_11 l D ad cL cI nv nb nt nf na lv nm vw vp (updN tw nt wd) ab am w (Bok_tw hok wd) ka kb kc ha hb2 wd (updN_self _ _ _) h1 h4 hnt) ⟨callB_of 4 hts (gW wd_325) rfl rfl rfl (hts _ wd_1) (hts _ wd_322) hd_B_buildArranged ⟨Nat.le_of_ble_eq_true rfl, Nat.le_of_ble_eq_true rfl⟩, hts _ wd_324, hts _ wd_p18⟩ XT_ok (fun _ _ _ => trivial) hK hP hD hS hA 0 0 rfl rfl rfl [0, 1] [0, 1, 2, 3, 4, 5, 6, 7, 8] [] [0, 1, 2, 3, 4, 5, 6, 7, 8] rfl rfl rfl rfl rfl (by decide) rfl rfl rfl hl.1 rfl (Nat.le_of_ble_eq_true rfl) d_B_term_89 ⟨Nat.zero_le _, Nat.zero_le _⟩ (st1 := []) rfl (fun H locs hP hD hS => ?_)
          refine lv_aload_n hx hb d_B_term_92 rfl (lv_at hl 1 rfl) ?_
          refine lv_dup hx hb d_B_term_93 rfl ?_
          refine va_get (D := D) (ci := 0) (v := .int (nI nt)) (C := R_B) (T := F_B) (N := 14) hx hb hts in_B hown hK hP 0 rfl rfl 7 (by decide) (hts _ wd_54) (fun _ h9 => h9) rfl d_B_term_94 ?_
          refine lv_iconst (v := nI 1) hx hb d_B_term_97 (by decide) ?_
          refine n_add hx hb d_B_term_98 ?_
          refine va_put (D := D) (ci := 0) (v := .int (nI (nt + 1))) (ty := .int) (C := R_B) (T := F_B) (N := 14) hx hb hts in_B t_B tok_B nm_B hown hK hP hD hS 0 rfl rfl 7 (by decide) (hts _ wd_54) (fun _ h9 => h9) rfl (by decide +kernel) rfl rfl (Nat.le_of_ble_eq_true rfl) d_B_term_99 (fun H locs hP hD hS => ?_)
          have hP : va_P D cls (bsW ad cL cI nv nb (nt + 1) nf na lv nm vw vp (updN tw nt wd) ab am (cDownN (50 + nt * 4) (50 + ka * 4) wd kb true wd w)) H := hP
          have hD : va_D A (bsW ad cL cI nv nb (nt + 1) nf na lv nm vw vp (updN tw nt wd) ab am (cDownN (50 + nt * 4) (50 + ka * 4) wd kb true wd w)) := hD
          refine lv_aload_n hx hb d_B_term_102 rfl (lv_at hl 1 rfl) ?_
          refine va_get (D := D) (ci := 0) (v := .int (nI (nt + 1))) (C := R_B) (T := F_B) (N := 14) hx hb hts in_B hown hK hP 0 rfl rfl 7 (by decide) (hts _ wd_54) (fun _ h9 => h9) rfl d_B_term_103 ?_
          refine lv_iconst (v := nI 1) hx hb d_B_term_106 (by decide) ?_
          refine n_sub hx hb (by omega) d_B_term_107 ?_
          exact fn_iret hx hb hr hlocks hAe hK hP hD hS (by rw [Nat.add_sub_cancel]) d_B_term_108
        · exact absurd c_70 (by omega)
      · exact absurd c_54 (by omega)
    · exact absurd c_30 (by omega)
  · exact absurd c_13 (by omega)
set_option maxHeartbeats 4000000 in
set_option maxRecDepth 100000 in
theorem c_B_term_12 (l : Launch) (D : va_G) (ad : Nat → Nat) (cL cI : ClassId) (nv nb nt nf na lv nm : Nat) (vw vp tw ab am : Nat → Nat) (w : Nat → Int64) (hok : Bok nv nb nt nf na lv nm vw vp tw ab am) (ka kb kc : Nat) (ha : ka < nf) (hb2 : kb < nt) (hc2 : kc < nt) (wd : Nat) (hw : pW nv nt nf vw tw (nI 12) (nI ka) (nI kb) (nI kc) = wd) (h1 : 1 ≤ wd) (h4 : wd ≤ 4) (hnt : nt < 50)  : Fn l y_B_term (wk y_B_term b_B_term 6 (some .int)) rm_B_term D cls [(cL, .long), (cI, .int)] [.ref (ad 0), .int (nI 12), .int (nI ka), .int (nI kb), .int (nI kc)] (bsW ad cL cI nv nb nt nf na lv nm vw vp tw ab am w) XT (some (.int (nI nt))) (bsW ad cL cI nv nb (nt + 1) nf na lv nm vw vp (updN tw nt wd) ab am (cChoN (50 + nt * 4) ka (50 + kb * 4) (50 + kc * 4) wd w)) := by
  refine Fn.of (by decide) rfl (Nat.le_of_ble_eq_true rfl) ?_
  intro p e s m below meth c A ls hx hb hml hr hts0 hown hlocks hnm hP hK hD hS hA hAe hX hl
  have hts : ∀ w ∈ lw_ok, w.before _ s = true := fun w h => hts0 w (List.mem_cons_of_mem _ h)
  have hown : s.vm.findClass R_B = some m.cls := hown
  have hP : va_P D cls (bsW ad cL cI nv nb nt nf na lv nm vw vp tw ab am w) s.heap := hP
  have hl : lv_has ls 6 [(0, .ref (ad 0)), (1, .int (nI 12)), (2, .int (nI ka)), (3, .int (nI kb)), (4, .int (nI kc))] := hl
  obtain ⟨o_nv, o_nb, o_nt, o_nf, o_na, o_lv, o_nm, o_vw, o_tw, o_am, o_ab⟩ := id hok
  refine lv_aload_n hx hb d_B_term_0 rfl (lv_at hl 0 rfl) ?_
  refine lv_iload_n hx hb d_B_term_1 rfl (lv_at hl 1 rfl) ?_
  refine lv_iload_n hx hb d_B_term_2 rfl (lv_at hl 2 rfl) ?_
  refine lv_iload_n hx hb d_B_term_3 rfl (lv_at hl 3 rfl) ?_
  refine lv_iload hx hb d_B_term_4 (lv_at hl 4 rfl) ?_
  refine fn_V (ws' := (bsW ad cL cI nv nb nt nf na lv nm vw vp tw ab am w)) (w1 := (bsW ad cL cI nv nb nt nf na lv nm vw vp tw ab am w)) (wc := (bsW ad cL cI nv nb nt nf na lv nm vw vp tw ab am w)) (wr := []) ⟨hx, hb, hml, hown, hts⟩ (c_B_widthToBuild l D ad cL cI nv nb nt nf na lv nm vw vp tw ab am w hok (nI 12) (nI ka) (nI kb) (nI kc)) ⟨callB_of 4 hts (gW wd_236) rfl rfl rfl (hts _ wd_1) (hts _ wd_233) hd_B_widthToBuild ⟨Nat.le_of_ble_eq_true rfl, Nat.le_of_ble_eq_true rfl⟩, hts _ wd_235, hts _ wd_p6⟩ XT_ok (fun _ _ _ => trivial) hK hP hD hS hA 0 0 rfl rfl rfl [0, 1] [0, 1, 2, 3, 4, 5, 6, 7, 8] [] [0, 1, 2, 3, 4, 5, 6, 7, 8] rfl rfl rfl rfl rfl (by decide) rfl rfl rfl hl.1 rfl (Nat.le_of_ble_eq_true rfl) d_B_term_6 ⟨Nat.zero_le _, Nat.zero_le _⟩ (st1 := [.int (nI (pW nv nt nf vw tw (nI 12) (nI ka) (nI kb) (nI kc)))]) rfl (fun H locs hP hD hS => ?_)
  rw [hw]
  refine lv_istore (lv' := [(5, .int (nI wd)), (0, .ref (ad 0)), (1, .int (nI 12)), (2, .int (nI ka)), (3, .int (nI kb)), (4, .int (nI kc))]) hx hb d_B_term_9 hl (by decide) rfl (fun ls hl => ?_)
  refine lv_iload hx hb d_B_term_11 (lv_at hl 0 rfl) ?_
  refine z_if_ne (tgt := 24) hx hb (nI_toInt (by omega)) d_B_term_13 (by decide) (fun c_13 => ?_) (fun c_13 => ?_)
  · refine lv_aload_n hx hb d_B_term_24 rfl (lv_at hl 1 rfl) ?_
    refine va_get (D := D) (ci := 0) (v := .int (nI nt)) (C := R_B) (T := F_B) (N := 14) hx hb hts in_B hown hK hP 0 rfl rfl 7 (by decide) (hts _ wd_54) (fun _ h9 => h9) rfl d_B_term_25 ?_
    refine lv_bipush (v := nI 50) hx hb d_B_term_28 (by decide) ?_
    refine z_icmp_lt (tgt := 41) hx hb (nI_toInt (by omega)) (nI_toInt (by omega)) d_B_term_30 (by decide) (fun c_30 => ?_) (fun c_30 => ?_)
    · refine lv_aload_n hx hb d_B_term_41 rfl (lv_at hl 1 rfl) ?_
      refine va_get (D := D) (ci := 0) (v := .ref (ad 6)) (C := R_B) (T := F_B) (N := 14) hx hb hts in_B hown hK hP 0 rfl rfl 6 (by decide) (hts _ wd_53) (fun _ h9 => h9) rfl d_B_term_42 ?_
      refine lv_aload_n hx hb d_B_term_45 rfl (lv_at hl 1 rfl) ?_
      refine va_get (D := D) (ci := 0) (v := .int (nI nt)) (C := R_B) (T := F_B) (N := 14) hx hb hts in_B hown hK hP 0 rfl rfl 7 (by decide) (hts _ wd_54) (fun _ h9 => h9) rfl d_B_term_46 ?_
      refine lv_iload hx hb d_B_term_49 (lv_at hl 0 rfl) ?_
      refine n_iast hx hb hK hP hD hS 6 1 rfl rfl (i := nt) (by omega) (by omega) (updN_I _ _ _) d_B_term_51 (ws' := (bsW ad cL cI nv nb nt nf na lv nm vw vp (updN tw nt wd) ab am w)) rfl (fun H locs hP hD hS => ?_)
      refine lv_iload_n hx hb d_B_term_52 rfl (lv_at hl 2 rfl) ?_
      refine lv_iconst (v := nI 4) hx hb d_B_term_53 (by decide) ?_
      refine z_icmp_gt (tgt := 67) hx hb (nI_toInt (by omega)) (nI_toInt (by omega)) d_B_term_54 (by decide) (fun c_54 => ?_) (fun c_54 => ?_)
      · refine lv_iload_n hx hb d_B_term_67 rfl (lv_at hl 2 rfl) ?_
        refine lv_bipush (v := nI 8) hx hb d_B_term_68 (by decide) ?_
        refine z_icmp_gt (tgt := 83) hx hb (nI_toInt (by omega)) (nI_toInt (by omega)) d_B_term_70 (by decide) (fun c_70 => ?_) (fun c_70 => ?_)
        · refine lv_aload_n hx hb d_B_term_83 rfl (lv_at hl 1 rfl) ?_
          refine lv_iload_n hx hb d_B_term_84 rfl (lv_at hl 2 rfl) ?_
          refine lv_iload_n hx hb d_B_term_85 rfl (lv_at hl 3 rfl) ?_
          refine lv_iload_n hx hb d_B_term_86 rfl (lv_at hl 4 rfl) ?_
          refine lv_iload hx hb d_B_term_87 (lv_at hl 5 rfl) ?_
          refine fn_V (ws' := (bsW ad cL cI nv nb nt nf na lv nm vw vp (updN tw nt wd) ab am (cChoN (50 + nt * 4) ka (50 + kb * 4) (50 + kc * 4) wd w))) (w1 := (bsW ad cL cI nv nb nt nf na lv nm vw vp (updN tw nt wd) ab am (cChoN (50 + nt * 4) ka (50 + kb * 4) (50 + kc * 4) wd w))) (wc := (bsW ad cL cI nv nb nt nf na lv nm vw vp (updN tw nt wd) ab am w)) (wr := []) ⟨hx, hb, hml, hown, hts⟩ (c_B_buildArranged_12 l D ad cL cI nv nb nt nf na lv nm vw vp (updN tw nt wd) ab am w (Bok_tw hok wd) ka kb kc ha hb2 hc2 wd (updN_self _ _ _) h1 h4 hnt) ⟨callB_of 4 hts (gW wd_325) rfl rfl rfl (hts _ wd_1) (hts _ wd_322) hd_B_buildArranged ⟨Nat.le_of_ble_eq_true rfl, Nat.le_of_ble_eq_true rfl⟩, hts _ wd_324, hts _ wd_p18⟩ XT_ok (fun _ _ _ => trivial) hK hP hD hS hA 0 0 rfl rfl rfl [0, 1] [0, 1, 2, 3, 4, 5, 6, 7, 8] [] [0, 1, 2, 3, 4, 5, 6, 7, 8] rfl rfl rfl rfl rfl (by decide) rfl rfl rfl hl.1 rfl (Nat.le_of_ble_eq_true rfl) d_B_term_89 ⟨Nat.zero_le _, Nat.zero_le _⟩ (st1 := []) rfl (fun H locs hP hD hS => ?_)
          refine lv_aload_n hx hb d_B_term_92 rfl (lv_at hl 1 rfl) ?_
          refine lv_dup hx hb d_B_term_93 rfl ?_
          refine va_get (D := D) (ci := 0) (v := .int (nI nt)) (C := R_B) (T := F_B) (N := 14) hx hb hts in_B hown hK hP 0 rfl rfl 7 (by decide) (hts _ wd_54) (fun _ h9 => h9) rfl d_B_term_94 ?_
          refine lv_iconst (v := nI 1) hx hb d_B_term_97 (by decide) ?_
          refine n_add hx hb d_B_term_98 ?_
          refine va_put (D := D) (ci := 0) (v := .int (nI (nt + 1))) (ty := .int) (C := R_B) (T := F_B) (N := 14) hx hb hts in_B t_B tok_B nm_B hown hK hP hD hS 0 rfl rfl 7 (by decide) (hts _ wd_54) (fun _ h9 => h9) rfl (by decide +kernel) rfl rfl (Nat.le_of_ble_eq_true rfl) d_B_term_99 (fun H locs hP hD hS => ?_)
          have hP : va_P D cls (bsW ad cL cI nv nb (nt + 1) nf na lv nm vw vp (updN tw nt wd) ab am (cChoN (50 + nt * 4) ka (50 + kb * 4) (50 + kc * 4) wd w)) H := hP
          have hD : va_D A (bsW ad cL cI nv nb (nt + 1) nf na lv nm vw vp (updN tw nt wd) ab am (cChoN (50 + nt * 4) ka (50 + kb * 4) (50 + kc * 4) wd w)) := hD
          refine lv_aload_n hx hb d_B_term_102 rfl (lv_at hl 1 rfl) ?_
          refine va_get (D := D) (ci := 0) (v := .int (nI (nt + 1))) (C := R_B) (T := F_B) (N := 14) hx hb hts in_B hown hK hP 0 rfl rfl 7 (by decide) (hts _ wd_54) (fun _ h9 => h9) rfl d_B_term_103 ?_
          refine lv_iconst (v := nI 1) hx hb d_B_term_106 (by decide) ?_
          refine n_sub hx hb (by omega) d_B_term_107 ?_
          exact fn_iret hx hb hr hlocks hAe hK hP hD hS (by rw [Nat.add_sub_cancel]) d_B_term_108
        · exact absurd c_70 (by omega)
      · exact absurd c_54 (by omega)
    · exact absurd c_30 (by omega)
  · exact absurd c_13 (by omega)
set_option maxHeartbeats 4000000 in
set_option maxRecDepth 100000 in
theorem c_B_term_13 (l : Launch) (D : va_G) (ad : Nat → Nat) (cL cI : ClassId) (nv nb nt nf na lv nm : Nat) (vw vp tw ab am : Nat → Nat) (w : Nat → Int64) (hok : Bok nv nb nt nf na lv nm vw vp tw ab am) (ka kb : Nat) (kc : Int32) (ha : ka < nt) (hb2 : kb < nt) (wd : Nat) (hw : pW nv nt nf vw tw (nI 13) (nI ka) (nI kb) kc = wd) (h1 : 1 ≤ wd) (h4 : wd ≤ 4) (hnt : nt < 50) (hs2 : tw ka + tw kb = wd) : Fn l y_B_term (wk y_B_term b_B_term 6 (some .int)) rm_B_term D cls [(cL, .long), (cI, .int)] [.ref (ad 0), .int (nI 13), .int (nI ka), .int (nI kb), .int kc] (bsW ad cL cI nv nb nt nf na lv nm vw vp tw ab am w) XT (some (.int (nI nt))) (bsW ad cL cI nv nb (nt + 1) nf na lv nm vw vp (updN tw nt wd) ab am (oCopy ((50 + nt * 4) + tw ka) (50 + kb * 4) (tw kb) (oCopy (50 + nt * 4) (50 + ka * 4) (tw ka) w))) := by
  refine Fn.of (by decide) rfl (Nat.le_of_ble_eq_true rfl) ?_
  intro p e s m below meth c A ls hx hb hml hr hts0 hown hlocks hnm hP hK hD hS hA hAe hX hl
  have hts : ∀ w ∈ lw_ok, w.before _ s = true := fun w h => hts0 w (List.mem_cons_of_mem _ h)
  have hown : s.vm.findClass R_B = some m.cls := hown
  have hP : va_P D cls (bsW ad cL cI nv nb nt nf na lv nm vw vp tw ab am w) s.heap := hP
  have hl : lv_has ls 6 [(0, .ref (ad 0)), (1, .int (nI 13)), (2, .int (nI ka)), (3, .int (nI kb)), (4, .int kc)] := hl
  obtain ⟨o_nv, o_nb, o_nt, o_nf, o_na, o_lv, o_nm, o_vw, o_tw, o_am, o_ab⟩ := id hok
  refine lv_aload_n hx hb d_B_term_0 rfl (lv_at hl 0 rfl) ?_
  refine lv_iload_n hx hb d_B_term_1 rfl (lv_at hl 1 rfl) ?_
  refine lv_iload_n hx hb d_B_term_2 rfl (lv_at hl 2 rfl) ?_
  refine lv_iload_n hx hb d_B_term_3 rfl (lv_at hl 3 rfl) ?_
  refine lv_iload hx hb d_B_term_4 (lv_at hl 4 rfl) ?_
  refine fn_V (ws' := (bsW ad cL cI nv nb nt nf na lv nm vw vp tw ab am w)) (w1 := (bsW ad cL cI nv nb nt nf na lv nm vw vp tw ab am w)) (wc := (bsW ad cL cI nv nb nt nf na lv nm vw vp tw ab am w)) (wr := []) ⟨hx, hb, hml, hown, hts⟩ (c_B_widthToBuild l D ad cL cI nv nb nt nf na lv nm vw vp tw ab am w hok (nI 13) (nI ka) (nI kb) kc) ⟨callB_of 4 hts (gW wd_236) rfl rfl rfl (hts _ wd_1) (hts _ wd_233) hd_B_widthToBuild ⟨Nat.le_of_ble_eq_true rfl, Nat.le_of_ble_eq_true rfl⟩, hts _ wd_235, hts _ wd_p6⟩ XT_ok (fun _ _ _ => trivial) hK hP hD hS hA 0 0 rfl rfl rfl [0, 1] [0, 1, 2, 3, 4, 5, 6, 7, 8] [] [0, 1, 2, 3, 4, 5, 6, 7, 8] rfl rfl rfl rfl rfl (by decide) rfl rfl rfl hl.1 rfl (Nat.le_of_ble_eq_true rfl) d_B_term_6 ⟨Nat.zero_le _, Nat.zero_le _⟩ (st1 := [.int (nI (pW nv nt nf vw tw (nI 13) (nI ka) (nI kb) kc))]) rfl (fun H locs hP hD hS => ?_)
  rw [hw]
  refine lv_istore (lv' := [(5, .int (nI wd)), (0, .ref (ad 0)), (1, .int (nI 13)), (2, .int (nI ka)), (3, .int (nI kb)), (4, .int kc)]) hx hb d_B_term_9 hl (by decide) rfl (fun ls hl => ?_)
  refine lv_iload hx hb d_B_term_11 (lv_at hl 0 rfl) ?_
  refine z_if_ne (tgt := 24) hx hb (nI_toInt (by omega)) d_B_term_13 (by decide) (fun c_13 => ?_) (fun c_13 => ?_)
  · refine lv_aload_n hx hb d_B_term_24 rfl (lv_at hl 1 rfl) ?_
    refine va_get (D := D) (ci := 0) (v := .int (nI nt)) (C := R_B) (T := F_B) (N := 14) hx hb hts in_B hown hK hP 0 rfl rfl 7 (by decide) (hts _ wd_54) (fun _ h9 => h9) rfl d_B_term_25 ?_
    refine lv_bipush (v := nI 50) hx hb d_B_term_28 (by decide) ?_
    refine z_icmp_lt (tgt := 41) hx hb (nI_toInt (by omega)) (nI_toInt (by omega)) d_B_term_30 (by decide) (fun c_30 => ?_) (fun c_30 => ?_)
    · refine lv_aload_n hx hb d_B_term_41 rfl (lv_at hl 1 rfl) ?_
      refine va_get (D := D) (ci := 0) (v := .ref (ad 6)) (C := R_B) (T := F_B) (N := 14) hx hb hts in_B hown hK hP 0 rfl rfl 6 (by decide) (hts _ wd_53) (fun _ h9 => h9) rfl d_B_term_42 ?_
      refine lv_aload_n hx hb d_B_term_45 rfl (lv_at hl 1 rfl) ?_
      refine va_get (D := D) (ci := 0) (v := .int (nI nt)) (C := R_B) (T := F_B) (N := 14) hx hb hts in_B hown hK hP 0 rfl rfl 7 (by decide) (hts _ wd_54) (fun _ h9 => h9) rfl d_B_term_46 ?_
      refine lv_iload hx hb d_B_term_49 (lv_at hl 0 rfl) ?_
      refine n_iast hx hb hK hP hD hS 6 1 rfl rfl (i := nt) (by omega) (by omega) (updN_I _ _ _) d_B_term_51 (ws' := (bsW ad cL cI nv nb nt nf na lv nm vw vp (updN tw nt wd) ab am w)) rfl (fun H locs hP hD hS => ?_)
      refine lv_iload_n hx hb d_B_term_52 rfl (lv_at hl 2 rfl) ?_
      refine lv_iconst (v := nI 4) hx hb d_B_term_53 (by decide) ?_
      refine z_icmp_gt (tgt := 67) hx hb (nI_toInt (by omega)) (nI_toInt (by omega)) d_B_term_54 (by decide) (fun c_54 => ?_) (fun c_54 => ?_)
      · refine lv_iload_n hx hb d_B_term_67 rfl (lv_at hl 2 rfl) ?_
        refine lv_bipush (v := nI 8) hx hb d_B_term_68 (by decide) ?_
        refine z_icmp_gt (tgt := 83) hx hb (nI_toInt (by omega)) (nI_toInt (by omega)) d_B_term_70 (by decide) (fun c_70 => ?_) (fun c_70 => ?_)
        · refine lv_aload_n hx hb d_B_term_83 rfl (lv_at hl 1 rfl) ?_
          refine lv_iload_n hx hb d_B_term_84 rfl (lv_at hl 2 rfl) ?_
          refine lv_iload_n hx hb d_B_term_85 rfl (lv_at hl 3 rfl) ?_
          refine lv_iload_n hx hb d_B_term_86 rfl (lv_at hl 4 rfl) ?_
          refine lv_iload hx hb d_B_term_87 (lv_at hl 5 rfl) ?_
          refine fn_V (ws' := (bsW ad cL cI nv nb nt nf na lv nm vw vp (updN tw nt wd) ab am (oCopy ((50 + nt * 4) + updN tw nt wd ka) (50 + kb * 4) (updN tw nt wd kb) (oCopy (50 + nt * 4) (50 + ka * 4) (updN tw nt wd ka) w)))) (w1 := (bsW ad cL cI nv nb nt nf na lv nm vw vp (updN tw nt wd) ab am (oCopy ((50 + nt * 4) + updN tw nt wd ka) (50 + kb * 4) (updN tw nt wd kb) (oCopy (50 + nt * 4) (50 + ka * 4) (updN tw nt wd ka) w)))) (wc := (bsW ad cL cI nv nb nt nf na lv nm vw vp (updN tw nt wd) ab am w)) (wr := []) ⟨hx, hb, hml, hown, hts⟩ (c_B_buildArranged_13 l D ad cL cI nv nb nt nf na lv nm vw vp (updN tw nt wd) ab am w (Bok_tw hok wd) ka kb kc ha hb2 wd (updN_self _ _ _) h1 h4 hnt (by rw [updN_ne _ _ (by omega), updN_ne _ _ (by omega)]; exact hs2)) ⟨callB_of 4 hts (gW wd_325) rfl rfl rfl (hts _ wd_1) (hts _ wd_322) hd_B_buildArranged ⟨Nat.le_of_ble_eq_true rfl, Nat.le_of_ble_eq_true rfl⟩, hts _ wd_324, hts _ wd_p18⟩ XT_ok (fun _ _ _ => trivial) hK hP hD hS hA 0 0 rfl rfl rfl [0, 1] [0, 1, 2, 3, 4, 5, 6, 7, 8] [] [0, 1, 2, 3, 4, 5, 6, 7, 8] rfl rfl rfl rfl rfl (by decide) rfl rfl rfl hl.1 rfl (Nat.le_of_ble_eq_true rfl) d_B_term_89 ⟨Nat.zero_le _, Nat.zero_le _⟩ (st1 := []) rfl (fun H locs hP hD hS => ?_)
          rw [show updN tw nt wd ka = tw ka from updN_ne _ _ (by omega), show updN tw nt wd kb = tw kb from updN_ne _ _ (by omega)] at hP hD
          refine lv_aload_n hx hb d_B_term_92 rfl (lv_at hl 1 rfl) ?_
          refine lv_dup hx hb d_B_term_93 rfl ?_
          refine va_get (D := D) (ci := 0) (v := .int (nI nt)) (C := R_B) (T := F_B) (N := 14) hx hb hts in_B hown hK hP 0 rfl rfl 7 (by decide) (hts _ wd_54) (fun _ h9 => h9) rfl d_B_term_94 ?_
          refine lv_iconst (v := nI 1) hx hb d_B_term_97 (by decide) ?_
          refine n_add hx hb d_B_term_98 ?_
          refine va_put (D := D) (ci := 0) (v := .int (nI (nt + 1))) (ty := .int) (C := R_B) (T := F_B) (N := 14) hx hb hts in_B t_B tok_B nm_B hown hK hP hD hS 0 rfl rfl 7 (by decide) (hts _ wd_54) (fun _ h9 => h9) rfl (by decide +kernel) rfl rfl (Nat.le_of_ble_eq_true rfl) d_B_term_99 (fun H locs hP hD hS => ?_)
          have hP : va_P D cls (bsW ad cL cI nv nb (nt + 1) nf na lv nm vw vp (updN tw nt wd) ab am (oCopy ((50 + nt * 4) + tw ka) (50 + kb * 4) (tw kb) (oCopy (50 + nt * 4) (50 + ka * 4) (tw ka) w))) H := hP
          have hD : va_D A (bsW ad cL cI nv nb (nt + 1) nf na lv nm vw vp (updN tw nt wd) ab am (oCopy ((50 + nt * 4) + tw ka) (50 + kb * 4) (tw kb) (oCopy (50 + nt * 4) (50 + ka * 4) (tw ka) w))) := hD
          refine lv_aload_n hx hb d_B_term_102 rfl (lv_at hl 1 rfl) ?_
          refine va_get (D := D) (ci := 0) (v := .int (nI (nt + 1))) (C := R_B) (T := F_B) (N := 14) hx hb hts in_B hown hK hP 0 rfl rfl 7 (by decide) (hts _ wd_54) (fun _ h9 => h9) rfl d_B_term_103 ?_
          refine lv_iconst (v := nI 1) hx hb d_B_term_106 (by decide) ?_
          refine n_sub hx hb (by omega) d_B_term_107 ?_
          exact fn_iret hx hb hr hlocks hAe hK hP hD hS (by rw [Nat.add_sub_cancel]) d_B_term_108
        · exact absurd c_70 (by omega)
      · exact absurd c_54 (by omega)
    · exact absurd c_30 (by omega)
  · exact absurd c_13 (by omega)
set_option maxHeartbeats 4000000 in
set_option maxRecDepth 100000 in
theorem c_B_term_14 (l : Launch) (D : va_G) (ad : Nat → Nat) (cL cI : ClassId) (nv nb nt nf na lv nm : Nat) (vw vp tw ab am : Nat → Nat) (w : Nat → Int64) (hok : Bok nv nb nt nf na lv nm vw vp tw ab am) (ka kb : Nat) (kc : Int32) (ha : ka < nt) (wd : Nat) (hw : pW nv nt nf vw tw (nI 14) (nI ka) (nI kb) kc = wd) (h1 : 1 ≤ wd) (h4 : wd ≤ 4) (hnt : nt < 50) (hb2 : kb + wd ≤ 4) : Fn l y_B_term (wk y_B_term b_B_term 6 (some .int)) rm_B_term D cls [(cL, .long), (cI, .int)] [.ref (ad 0), .int (nI 14), .int (nI ka), .int (nI kb), .int kc] (bsW ad cL cI nv nb nt nf na lv nm vw vp tw ab am w) XT (some (.int (nI nt))) (bsW ad cL cI nv nb (nt + 1) nf na lv nm vw vp (updN tw nt wd) ab am (oCopy (50 + nt * 4) ((50 + ka * 4) + kb) wd w)) := by
  refine Fn.of (by decide) rfl (Nat.le_of_ble_eq_true rfl) ?_
  intro p e s m below meth c A ls hx hb hml hr hts0 hown hlocks hnm hP hK hD hS hA hAe hX hl
  have hts : ∀ w ∈ lw_ok, w.before _ s = true := fun w h => hts0 w (List.mem_cons_of_mem _ h)
  have hown : s.vm.findClass R_B = some m.cls := hown
  have hP : va_P D cls (bsW ad cL cI nv nb nt nf na lv nm vw vp tw ab am w) s.heap := hP
  have hl : lv_has ls 6 [(0, .ref (ad 0)), (1, .int (nI 14)), (2, .int (nI ka)), (3, .int (nI kb)), (4, .int kc)] := hl
  obtain ⟨o_nv, o_nb, o_nt, o_nf, o_na, o_lv, o_nm, o_vw, o_tw, o_am, o_ab⟩ := id hok
  refine lv_aload_n hx hb d_B_term_0 rfl (lv_at hl 0 rfl) ?_
  refine lv_iload_n hx hb d_B_term_1 rfl (lv_at hl 1 rfl) ?_
  refine lv_iload_n hx hb d_B_term_2 rfl (lv_at hl 2 rfl) ?_
  refine lv_iload_n hx hb d_B_term_3 rfl (lv_at hl 3 rfl) ?_
  refine lv_iload hx hb d_B_term_4 (lv_at hl 4 rfl) ?_
  refine fn_V (ws' := (bsW ad cL cI nv nb nt nf na lv nm vw vp tw ab am w)) (w1 := (bsW ad cL cI nv nb nt nf na lv nm vw vp tw ab am w)) (wc := (bsW ad cL cI nv nb nt nf na lv nm vw vp tw ab am w)) (wr := []) ⟨hx, hb, hml, hown, hts⟩ (c_B_widthToBuild l D ad cL cI nv nb nt nf na lv nm vw vp tw ab am w hok (nI 14) (nI ka) (nI kb) kc) ⟨callB_of 4 hts (gW wd_236) rfl rfl rfl (hts _ wd_1) (hts _ wd_233) hd_B_widthToBuild ⟨Nat.le_of_ble_eq_true rfl, Nat.le_of_ble_eq_true rfl⟩, hts _ wd_235, hts _ wd_p6⟩ XT_ok (fun _ _ _ => trivial) hK hP hD hS hA 0 0 rfl rfl rfl [0, 1] [0, 1, 2, 3, 4, 5, 6, 7, 8] [] [0, 1, 2, 3, 4, 5, 6, 7, 8] rfl rfl rfl rfl rfl (by decide) rfl rfl rfl hl.1 rfl (Nat.le_of_ble_eq_true rfl) d_B_term_6 ⟨Nat.zero_le _, Nat.zero_le _⟩ (st1 := [.int (nI (pW nv nt nf vw tw (nI 14) (nI ka) (nI kb) kc))]) rfl (fun H locs hP hD hS => ?_)
  rw [hw]
  refine lv_istore (lv' := [(5, .int (nI wd)), (0, .ref (ad 0)), (1, .int (nI 14)), (2, .int (nI ka)), (3, .int (nI kb)), (4, .int kc)]) hx hb d_B_term_9 hl (by decide) rfl (fun ls hl => ?_)
  refine lv_iload hx hb d_B_term_11 (lv_at hl 0 rfl) ?_
  refine z_if_ne (tgt := 24) hx hb (nI_toInt (by omega)) d_B_term_13 (by decide) (fun c_13 => ?_) (fun c_13 => ?_)
  · refine lv_aload_n hx hb d_B_term_24 rfl (lv_at hl 1 rfl) ?_
    refine va_get (D := D) (ci := 0) (v := .int (nI nt)) (C := R_B) (T := F_B) (N := 14) hx hb hts in_B hown hK hP 0 rfl rfl 7 (by decide) (hts _ wd_54) (fun _ h9 => h9) rfl d_B_term_25 ?_
    refine lv_bipush (v := nI 50) hx hb d_B_term_28 (by decide) ?_
    refine z_icmp_lt (tgt := 41) hx hb (nI_toInt (by omega)) (nI_toInt (by omega)) d_B_term_30 (by decide) (fun c_30 => ?_) (fun c_30 => ?_)
    · refine lv_aload_n hx hb d_B_term_41 rfl (lv_at hl 1 rfl) ?_
      refine va_get (D := D) (ci := 0) (v := .ref (ad 6)) (C := R_B) (T := F_B) (N := 14) hx hb hts in_B hown hK hP 0 rfl rfl 6 (by decide) (hts _ wd_53) (fun _ h9 => h9) rfl d_B_term_42 ?_
      refine lv_aload_n hx hb d_B_term_45 rfl (lv_at hl 1 rfl) ?_
      refine va_get (D := D) (ci := 0) (v := .int (nI nt)) (C := R_B) (T := F_B) (N := 14) hx hb hts in_B hown hK hP 0 rfl rfl 7 (by decide) (hts _ wd_54) (fun _ h9 => h9) rfl d_B_term_46 ?_
      refine lv_iload hx hb d_B_term_49 (lv_at hl 0 rfl) ?_
      refine n_iast hx hb hK hP hD hS 6 1 rfl rfl (i := nt) (by omega) (by omega) (updN_I _ _ _) d_B_term_51 (ws' := (bsW ad cL cI nv nb nt nf na lv nm vw vp (updN tw nt wd) ab am w)) rfl (fun H locs hP hD hS => ?_)
      refine lv_iload_n hx hb d_B_term_52 rfl (lv_at hl 2 rfl) ?_
      refine lv_iconst (v := nI 4) hx hb d_B_term_53 (by decide) ?_
      refine z_icmp_gt (tgt := 67) hx hb (nI_toInt (by omega)) (nI_toInt (by omega)) d_B_term_54 (by decide) (fun c_54 => ?_) (fun c_54 => ?_)
      · refine lv_iload_n hx hb d_B_term_67 rfl (lv_at hl 2 rfl) ?_
        refine lv_bipush (v := nI 8) hx hb d_B_term_68 (by decide) ?_
        refine z_icmp_gt (tgt := 83) hx hb (nI_toInt (by omega)) (nI_toInt (by omega)) d_B_term_70 (by decide) (fun c_70 => ?_) (fun c_70 => ?_)
        · refine lv_aload_n hx hb d_B_term_83 rfl (lv_at hl 1 rfl) ?_
          refine lv_iload_n hx hb d_B_term_84 rfl (lv_at hl 2 rfl) ?_
          refine lv_iload_n hx hb d_B_term_85 rfl (lv_at hl 3 rfl) ?_
          refine lv_iload_n hx hb d_B_term_86 rfl (lv_at hl 4 rfl) ?_
          refine lv_iload hx hb d_B_term_87 (lv_at hl 5 rfl) ?_
          refine fn_V (ws' := (bsW ad cL cI nv nb nt nf na lv nm vw vp (updN tw nt wd) ab am (oCopy (50 + nt * 4) ((50 + ka * 4) + kb) wd w))) (w1 := (bsW ad cL cI nv nb nt nf na lv nm vw vp (updN tw nt wd) ab am (oCopy (50 + nt * 4) ((50 + ka * 4) + kb) wd w))) (wc := (bsW ad cL cI nv nb nt nf na lv nm vw vp (updN tw nt wd) ab am w)) (wr := []) ⟨hx, hb, hml, hown, hts⟩ (c_B_buildArranged_14 l D ad cL cI nv nb nt nf na lv nm vw vp (updN tw nt wd) ab am w (Bok_tw hok wd) ka kb kc ha wd (updN_self _ _ _) h1 h4 hnt hb2) ⟨callB_of 4 hts (gW wd_325) rfl rfl rfl (hts _ wd_1) (hts _ wd_322) hd_B_buildArranged ⟨Nat.le_of_ble_eq_true rfl, Nat.le_of_ble_eq_true rfl⟩, hts _ wd_324, hts _ wd_p18⟩ XT_ok (fun _ _ _ => trivial) hK hP hD hS hA 0 0 rfl rfl rfl [0, 1] [0, 1, 2, 3, 4, 5, 6, 7, 8] [] [0, 1, 2, 3, 4, 5, 6, 7, 8] rfl rfl rfl rfl rfl (by decide) rfl rfl rfl hl.1 rfl (Nat.le_of_ble_eq_true rfl) d_B_term_89 ⟨Nat.zero_le _, Nat.zero_le _⟩ (st1 := []) rfl (fun H locs hP hD hS => ?_)
          refine lv_aload_n hx hb d_B_term_92 rfl (lv_at hl 1 rfl) ?_
          refine lv_dup hx hb d_B_term_93 rfl ?_
          refine va_get (D := D) (ci := 0) (v := .int (nI nt)) (C := R_B) (T := F_B) (N := 14) hx hb hts in_B hown hK hP 0 rfl rfl 7 (by decide) (hts _ wd_54) (fun _ h9 => h9) rfl d_B_term_94 ?_
          refine lv_iconst (v := nI 1) hx hb d_B_term_97 (by decide) ?_
          refine n_add hx hb d_B_term_98 ?_
          refine va_put (D := D) (ci := 0) (v := .int (nI (nt + 1))) (ty := .int) (C := R_B) (T := F_B) (N := 14) hx hb hts in_B t_B tok_B nm_B hown hK hP hD hS 0 rfl rfl 7 (by decide) (hts _ wd_54) (fun _ h9 => h9) rfl (by decide +kernel) rfl rfl (Nat.le_of_ble_eq_true rfl) d_B_term_99 (fun H locs hP hD hS => ?_)
          have hP : va_P D cls (bsW ad cL cI nv nb (nt + 1) nf na lv nm vw vp (updN tw nt wd) ab am (oCopy (50 + nt * 4) ((50 + ka * 4) + kb) wd w)) H := hP
          have hD : va_D A (bsW ad cL cI nv nb (nt + 1) nf na lv nm vw vp (updN tw nt wd) ab am (oCopy (50 + nt * 4) ((50 + ka * 4) + kb) wd w)) := hD
          refine lv_aload_n hx hb d_B_term_102 rfl (lv_at hl 1 rfl) ?_
          refine va_get (D := D) (ci := 0) (v := .int (nI (nt + 1))) (C := R_B) (T := F_B) (N := 14) hx hb hts in_B hown hK hP 0 rfl rfl 7 (by decide) (hts _ wd_54) (fun _ h9 => h9) rfl d_B_term_103 ?_
          refine lv_iconst (v := nI 1) hx hb d_B_term_106 (by decide) ?_
          refine n_sub hx hb (by omega) d_B_term_107 ?_
          exact fn_iret hx hb hr hlocks hAe hK hP hD hS (by rw [Nat.add_sub_cancel]) d_B_term_108
        · exact absurd c_70 (by omega)
      · exact absurd c_54 (by omega)
    · exact absurd c_30 (by omega)
  · exact absurd c_13 (by omega)
set_option maxHeartbeats 4000000 in
set_option maxRecDepth 100000 in
theorem c_B_formula_0 (l : Launch) (D : va_G) (ad : Nat → Nat) (cL cI : ClassId) (nv nb nt nf na lv nm : Nat) (vw vp tw ab am : Nat → Nat) (w : Nat → Int64) (hok : Bok nv nb nt nf na lv nm vw vp tw ab am) (ka kb : Nat) (ha : ka < nt) (hb2 : kb < nt) (hf : pF nt nf tw (nI 0) (nI ka) (nI kb) = true) (hnf : nf < 50) : Fn l y_B_formula (wk y_B_formula b_B_formula 4 (some .int)) rm_B_formula D cls [(cL, .long), (cI, .int)] [.ref (ad 0), .int (nI 0), .int (nI ka), .int (nI kb)] (bsW ad cL cI nv nb nt nf na lv nm vw vp tw ab am w) XT (some (.int (nI nf))) (bsW ad cL cI nv nb nt (nf + 1) na lv nm vw vp tw ab am (cEq nf (50 + ka * 4) (50 + kb * 4) (tw ka) w)) := by
  refine Fn.of (by decide) rfl (Nat.le_of_ble_eq_true rfl) ?_
  intro p e s m below meth c A ls hx hb hml hr hts0 hown hlocks hnm hP hK hD hS hA hAe hX hl
  have hts : ∀ w ∈ lw_ok, w.before _ s = true := fun w h => hts0 w (List.mem_cons_of_mem _ h)
  have hown : s.vm.findClass R_B = some m.cls := hown
  have hP : va_P D cls (bsW ad cL cI nv nb nt nf na lv nm vw vp tw ab am w) s.heap := hP
  have hl : lv_has ls 4 [(0, .ref (ad 0)), (1, .int (nI 0)), (2, .int (nI ka)), (3, .int (nI kb))] := hl
  obtain ⟨o_nv, o_nb, o_nt, o_nf, o_na, o_lv, o_nm, o_vw, o_tw, o_am, o_ab⟩ := id hok
  refine lv_aload_n hx hb d_B_formula_0 rfl (lv_at hl 0 rfl) ?_
  refine lv_iload_n hx hb d_B_formula_1 rfl (lv_at hl 1 rfl) ?_
  refine lv_iload_n hx hb d_B_formula_2 rfl (lv_at hl 2 rfl) ?_
  refine lv_iload_n hx hb d_B_formula_3 rfl (lv_at hl 3 rfl) ?_
  refine fn_V (ws' := (bsW ad cL cI nv nb nt nf na lv nm vw vp tw ab am w)) (w1 := (bsW ad cL cI nv nb nt nf na lv nm vw vp tw ab am w)) (wc := (bsW ad cL cI nv nb nt nf na lv nm vw vp tw ab am w)) (wr := []) ⟨hx, hb, hml, hown, hts⟩ (c_B_canBuildFormula l D ad cL cI nv nb nt nf na lv nm vw vp tw ab am w hok (nI 0) (nI ka) (nI kb)) ⟨callB_of 3 hts (gW wd_353) rfl rfl rfl (hts _ wd_1) (hts _ wd_350) hd_B_canBuildFormula ⟨Nat.le_of_ble_eq_true rfl, Nat.le_of_ble_eq_true rfl⟩, hts _ wd_352, hts _ wd_p19⟩ XT_ok (fun _ _ _ => trivial) hK hP hD hS hA 0 0 rfl rfl rfl [0, 1] [0, 1, 2, 3, 4, 5, 6, 7, 8] [] [0, 1, 2, 3, 4, 5, 6, 7, 8] rfl rfl rfl rfl rfl (by decide) rfl rfl rfl hl.1 rfl (Nat.le_of_ble_eq_true rfl) d_B_formula_4 ⟨Nat.zero_le _, Nat.zero_le _⟩ (st1 := [.int (bI (pF nt nf tw (nI 0) (nI ka) (nI kb)))]) rfl (fun H locs hP hD hS => ?_)
  refine b_if_ne (tgt := 18) hx hb d_B_formula_7 (by decide) (fun c_7 => ?_) (fun c_7 => ?_)
  · refine lv_aload_n hx hb d_B_formula_18 rfl (lv_at hl 0 rfl) ?_
    refine va_get (D := D) (ci := 0) (v := .int (nI nf)) (C := R_B) (T := F_B) (N := 14) hx hb hts in_B hown hK hP 0 rfl rfl 8 (by decide) (hts _ wd_55) (fun _ h9 => h9) rfl d_B_formula_19 ?_
    refine lv_bipush (v := nI 50) hx hb d_B_formula_22 (by decide) ?_
    refine z_icmp_lt (tgt := 35) hx hb (nI_toInt (by omega)) (nI_toInt (by omega)) d_B_formula_24 (by decide) (fun c_24 => ?_) (fun c_24 => ?_)
    · refine lv_iload_n hx hb d_B_formula_35 rfl (lv_at hl 1 rfl) ?_
      refine lv_iconst (v := nI 5) hx hb d_B_formula_36 (by decide) ?_
      refine z_icmp_gt (tgt := 50) hx hb (nI_toInt (by omega)) (nI_toInt (by omega)) d_B_formula_37 (by decide) (fun c_37 => ?_) (fun c_37 => ?_)
      · exact absurd c_37 (by omega)
      · refine lv_aload_n hx hb d_B_formula_40 rfl (lv_at hl 0 rfl) ?_
        refine lv_iload_n hx hb d_B_formula_41 rfl (lv_at hl 1 rfl) ?_
        refine lv_iload_n hx hb d_B_formula_42 rfl (lv_at hl 2 rfl) ?_
        refine lv_iload_n hx hb d_B_formula_43 rfl (lv_at hl 3 rfl) ?_
        refine fn_V (ws' := (bsW ad cL cI nv nb nt nf na lv nm vw vp tw ab am (cEq nf (50 + ka * 4) (50 + kb * 4) (tw ka) w))) (w1 := (bsW ad cL cI nv nb nt nf na lv nm vw vp tw ab am (cEq nf (50 + ka * 4) (50 + kb * 4) (tw ka) w))) (wc := (bsW ad cL cI nv nb nt nf na lv nm vw vp tw ab am w)) (wr := []) ⟨hx, hb, hml, hown, hts⟩ (c_B_buildRelation_0 l D ad cL cI nv nb nt nf na lv nm vw vp tw ab am w hok ka kb ha hb2 hnf) ⟨callB_of 3 hts (gW wd_357) rfl rfl rfl (hts _ wd_1) (hts _ wd_354) hd_B_buildRelation ⟨Nat.le_of_ble_eq_true rfl, Nat.le_of_ble_eq_true rfl⟩, hts _ wd_356, hts _ wd_p20⟩ XT_ok (fun _ _ _ => trivial) hK hP hD hS hA 0 0 rfl rfl rfl [0, 1] [0, 1, 2, 3, 4, 5, 6, 7, 8] [] [0, 1, 2, 3, 4, 5, 6, 7, 8] rfl rfl rfl rfl rfl (by decide) rfl rfl rfl hl.1 rfl (Nat.le_of_ble_eq_true rfl) d_B_formula_44 ⟨Nat.zero_le _, Nat.zero_le _⟩ (st1 := []) rfl (fun H locs hP hD hS => ?_)
        refine lv_goto (tgt := 57) hx hb d_B_formula_47 (by decide) ?_
        refine lv_aload_n hx hb d_B_formula_57 rfl (lv_at hl 0 rfl) ?_
        refine lv_dup hx hb d_B_formula_58 rfl ?_
        refine va_get (D := D) (ci := 0) (v := .int (nI nf)) (C := R_B) (T := F_B) (N := 14) hx hb hts in_B hown hK hP 0 rfl rfl 8 (by decide) (hts _ wd_55) (fun _ h9 => h9) rfl d_B_formula_59 ?_
        refine lv_iconst (v := nI 1) hx hb d_B_formula_62 (by decide) ?_
        refine n_add hx hb d_B_formula_63 ?_
        refine va_put (D := D) (ci := 0) (v := .int (nI (nf + 1))) (ty := .int) (C := R_B) (T := F_B) (N := 14) hx hb hts in_B t_B tok_B nm_B hown hK hP hD hS 0 rfl rfl 8 (by decide) (hts _ wd_55) (fun _ h9 => h9) rfl (by decide +kernel) rfl rfl (Nat.le_of_ble_eq_true rfl) d_B_formula_64 (fun H locs hP hD hS => ?_)
        have hP : va_P D cls (bsW ad cL cI nv nb nt (nf + 1) na lv nm vw vp tw ab am (cEq nf (50 + ka * 4) (50 + kb * 4) (tw ka) w)) H := hP
        have hD : va_D A (bsW ad cL cI nv nb nt (nf + 1) na lv nm vw vp tw ab am (cEq nf (50 + ka * 4) (50 + kb * 4) (tw ka) w)) := hD
        refine lv_aload_n hx hb d_B_formula_67 rfl (lv_at hl 0 rfl) ?_
        refine va_get (D := D) (ci := 0) (v := .int (nI (nf + 1))) (C := R_B) (T := F_B) (N := 14) hx hb hts in_B hown hK hP 0 rfl rfl 8 (by decide) (hts _ wd_55) (fun _ h9 => h9) rfl d_B_formula_68 ?_
        refine lv_iconst (v := nI 1) hx hb d_B_formula_71 (by decide) ?_
        refine n_sub hx hb (by omega) d_B_formula_72 ?_
        exact fn_iret hx hb hr hlocks hAe hK hP hD hS (by rw [Nat.add_sub_cancel]) d_B_formula_73
    · exact absurd c_24 (by omega)
  · exact absurd hf (by rw [c_7]; decide)
set_option maxHeartbeats 4000000 in
set_option maxRecDepth 100000 in
theorem c_B_formula_1 (l : Launch) (D : va_G) (ad : Nat → Nat) (cL cI : ClassId) (nv nb nt nf na lv nm : Nat) (vw vp tw ab am : Nat → Nat) (w : Nat → Int64) (hok : Bok nv nb nt nf na lv nm vw vp tw ab am) (ka kb : Nat) (ha : ka < nt) (hb2 : kb < nt) (hf : pF nt nf tw (nI 1) (nI ka) (nI kb) = true) (hnf : nf < 50) : Fn l y_B_formula (wk y_B_formula b_B_formula 4 (some .int)) rm_B_formula D cls [(cL, .long), (cI, .int)] [.ref (ad 0), .int (nI 1), .int (nI ka), .int (nI kb)] (bsW ad cL cI nv nb nt nf na lv nm vw vp tw ab am w) XT (some (.int (nI nf))) (bsW ad cL cI nv nb nt (nf + 1) na lv nm vw vp tw ab am (cLess nf (50 + ka * 4) (50 + kb * 4) (tw ka) false w)) := by
  refine Fn.of (by decide) rfl (Nat.le_of_ble_eq_true rfl) ?_
  intro p e s m below meth c A ls hx hb hml hr hts0 hown hlocks hnm hP hK hD hS hA hAe hX hl
  have hts : ∀ w ∈ lw_ok, w.before _ s = true := fun w h => hts0 w (List.mem_cons_of_mem _ h)
  have hown : s.vm.findClass R_B = some m.cls := hown
  have hP : va_P D cls (bsW ad cL cI nv nb nt nf na lv nm vw vp tw ab am w) s.heap := hP
  have hl : lv_has ls 4 [(0, .ref (ad 0)), (1, .int (nI 1)), (2, .int (nI ka)), (3, .int (nI kb))] := hl
  obtain ⟨o_nv, o_nb, o_nt, o_nf, o_na, o_lv, o_nm, o_vw, o_tw, o_am, o_ab⟩ := id hok
  refine lv_aload_n hx hb d_B_formula_0 rfl (lv_at hl 0 rfl) ?_
  refine lv_iload_n hx hb d_B_formula_1 rfl (lv_at hl 1 rfl) ?_
  refine lv_iload_n hx hb d_B_formula_2 rfl (lv_at hl 2 rfl) ?_
  refine lv_iload_n hx hb d_B_formula_3 rfl (lv_at hl 3 rfl) ?_
  refine fn_V (ws' := (bsW ad cL cI nv nb nt nf na lv nm vw vp tw ab am w)) (w1 := (bsW ad cL cI nv nb nt nf na lv nm vw vp tw ab am w)) (wc := (bsW ad cL cI nv nb nt nf na lv nm vw vp tw ab am w)) (wr := []) ⟨hx, hb, hml, hown, hts⟩ (c_B_canBuildFormula l D ad cL cI nv nb nt nf na lv nm vw vp tw ab am w hok (nI 1) (nI ka) (nI kb)) ⟨callB_of 3 hts (gW wd_353) rfl rfl rfl (hts _ wd_1) (hts _ wd_350) hd_B_canBuildFormula ⟨Nat.le_of_ble_eq_true rfl, Nat.le_of_ble_eq_true rfl⟩, hts _ wd_352, hts _ wd_p19⟩ XT_ok (fun _ _ _ => trivial) hK hP hD hS hA 0 0 rfl rfl rfl [0, 1] [0, 1, 2, 3, 4, 5, 6, 7, 8] [] [0, 1, 2, 3, 4, 5, 6, 7, 8] rfl rfl rfl rfl rfl (by decide) rfl rfl rfl hl.1 rfl (Nat.le_of_ble_eq_true rfl) d_B_formula_4 ⟨Nat.zero_le _, Nat.zero_le _⟩ (st1 := [.int (bI (pF nt nf tw (nI 1) (nI ka) (nI kb)))]) rfl (fun H locs hP hD hS => ?_)
  refine b_if_ne (tgt := 18) hx hb d_B_formula_7 (by decide) (fun c_7 => ?_) (fun c_7 => ?_)
  · refine lv_aload_n hx hb d_B_formula_18 rfl (lv_at hl 0 rfl) ?_
    refine va_get (D := D) (ci := 0) (v := .int (nI nf)) (C := R_B) (T := F_B) (N := 14) hx hb hts in_B hown hK hP 0 rfl rfl 8 (by decide) (hts _ wd_55) (fun _ h9 => h9) rfl d_B_formula_19 ?_
    refine lv_bipush (v := nI 50) hx hb d_B_formula_22 (by decide) ?_
    refine z_icmp_lt (tgt := 35) hx hb (nI_toInt (by omega)) (nI_toInt (by omega)) d_B_formula_24 (by decide) (fun c_24 => ?_) (fun c_24 => ?_)
    · refine lv_iload_n hx hb d_B_formula_35 rfl (lv_at hl 1 rfl) ?_
      refine lv_iconst (v := nI 5) hx hb d_B_formula_36 (by decide) ?_
      refine z_icmp_gt (tgt := 50) hx hb (nI_toInt (by omega)) (nI_toInt (by omega)) d_B_formula_37 (by decide) (fun c_37 => ?_) (fun c_37 => ?_)
      · exact absurd c_37 (by omega)
      · refine lv_aload_n hx hb d_B_formula_40 rfl (lv_at hl 0 rfl) ?_
        refine lv_iload_n hx hb d_B_formula_41 rfl (lv_at hl 1 rfl) ?_
        refine lv_iload_n hx hb d_B_formula_42 rfl (lv_at hl 2 rfl) ?_
        refine lv_iload_n hx hb d_B_formula_43 rfl (lv_at hl 3 rfl) ?_
        refine fn_V (ws' := (bsW ad cL cI nv nb nt nf na lv nm vw vp tw ab am (cLess nf (50 + ka * 4) (50 + kb * 4) (tw ka) false w))) (w1 := (bsW ad cL cI nv nb nt nf na lv nm vw vp tw ab am (cLess nf (50 + ka * 4) (50 + kb * 4) (tw ka) false w))) (wc := (bsW ad cL cI nv nb nt nf na lv nm vw vp tw ab am w)) (wr := []) ⟨hx, hb, hml, hown, hts⟩ (c_B_buildRelation_1 l D ad cL cI nv nb nt nf na lv nm vw vp tw ab am w hok ka kb ha hb2 hnf) ⟨callB_of 3 hts (gW wd_357) rfl rfl rfl (hts _ wd_1) (hts _ wd_354) hd_B_buildRelation ⟨Nat.le_of_ble_eq_true rfl, Nat.le_of_ble_eq_true rfl⟩, hts _ wd_356, hts _ wd_p20⟩ XT_ok (fun _ _ _ => trivial) hK hP hD hS hA 0 0 rfl rfl rfl [0, 1] [0, 1, 2, 3, 4, 5, 6, 7, 8] [] [0, 1, 2, 3, 4, 5, 6, 7, 8] rfl rfl rfl rfl rfl (by decide) rfl rfl rfl hl.1 rfl (Nat.le_of_ble_eq_true rfl) d_B_formula_44 ⟨Nat.zero_le _, Nat.zero_le _⟩ (st1 := []) rfl (fun H locs hP hD hS => ?_)
        refine lv_goto (tgt := 57) hx hb d_B_formula_47 (by decide) ?_
        refine lv_aload_n hx hb d_B_formula_57 rfl (lv_at hl 0 rfl) ?_
        refine lv_dup hx hb d_B_formula_58 rfl ?_
        refine va_get (D := D) (ci := 0) (v := .int (nI nf)) (C := R_B) (T := F_B) (N := 14) hx hb hts in_B hown hK hP 0 rfl rfl 8 (by decide) (hts _ wd_55) (fun _ h9 => h9) rfl d_B_formula_59 ?_
        refine lv_iconst (v := nI 1) hx hb d_B_formula_62 (by decide) ?_
        refine n_add hx hb d_B_formula_63 ?_
        refine va_put (D := D) (ci := 0) (v := .int (nI (nf + 1))) (ty := .int) (C := R_B) (T := F_B) (N := 14) hx hb hts in_B t_B tok_B nm_B hown hK hP hD hS 0 rfl rfl 8 (by decide) (hts _ wd_55) (fun _ h9 => h9) rfl (by decide +kernel) rfl rfl (Nat.le_of_ble_eq_true rfl) d_B_formula_64 (fun H locs hP hD hS => ?_)
        have hP : va_P D cls (bsW ad cL cI nv nb nt (nf + 1) na lv nm vw vp tw ab am (cLess nf (50 + ka * 4) (50 + kb * 4) (tw ka) false w)) H := hP
        have hD : va_D A (bsW ad cL cI nv nb nt (nf + 1) na lv nm vw vp tw ab am (cLess nf (50 + ka * 4) (50 + kb * 4) (tw ka) false w)) := hD
        refine lv_aload_n hx hb d_B_formula_67 rfl (lv_at hl 0 rfl) ?_
        refine va_get (D := D) (ci := 0) (v := .int (nI (nf + 1))) (C := R_B) (T := F_B) (N := 14) hx hb hts in_B hown hK hP 0 rfl rfl 8 (by decide) (hts _ wd_55) (fun _ h9 => h9) rfl d_B_formula_68 ?_
        refine lv_iconst (v := nI 1) hx hb d_B_formula_71 (by decide) ?_
        refine n_sub hx hb (by omega) d_B_formula_72 ?_
        exact fn_iret hx hb hr hlocks hAe hK hP hD hS (by rw [Nat.add_sub_cancel]) d_B_formula_73
    · exact absurd c_24 (by omega)
  · exact absurd hf (by rw [c_7]; decide)
set_option maxHeartbeats 4000000 in
set_option maxRecDepth 100000 in
theorem c_B_formula_2 (l : Launch) (D : va_G) (ad : Nat → Nat) (cL cI : ClassId) (nv nb nt nf na lv nm : Nat) (vw vp tw ab am : Nat → Nat) (w : Nat → Int64) (hok : Bok nv nb nt nf na lv nm vw vp tw ab am) (ka kb : Nat) (ha : ka < nt) (hb2 : kb < nt) (hf : pF nt nf tw (nI 2) (nI ka) (nI kb) = true) (hnf : nf < 50) : Fn l y_B_formula (wk y_B_formula b_B_formula 4 (some .int)) rm_B_formula D cls [(cL, .long), (cI, .int)] [.ref (ad 0), .int (nI 2), .int (nI ka), .int (nI kb)] (bsW ad cL cI nv nb nt nf na lv nm vw vp tw ab am w) XT (some (.int (nI nf))) (bsW ad cL cI nv nb nt (nf + 1) na lv nm vw vp tw ab am (cAtMost nf (50 + ka * 4) (50 + kb * 4) (tw ka) false w)) := by
  refine Fn.of (by decide) rfl (Nat.le_of_ble_eq_true rfl) ?_
  intro p e s m below meth c A ls hx hb hml hr hts0 hown hlocks hnm hP hK hD hS hA hAe hX hl
  have hts : ∀ w ∈ lw_ok, w.before _ s = true := fun w h => hts0 w (List.mem_cons_of_mem _ h)
  have hown : s.vm.findClass R_B = some m.cls := hown
  have hP : va_P D cls (bsW ad cL cI nv nb nt nf na lv nm vw vp tw ab am w) s.heap := hP
  have hl : lv_has ls 4 [(0, .ref (ad 0)), (1, .int (nI 2)), (2, .int (nI ka)), (3, .int (nI kb))] := hl
  obtain ⟨o_nv, o_nb, o_nt, o_nf, o_na, o_lv, o_nm, o_vw, o_tw, o_am, o_ab⟩ := id hok
  refine lv_aload_n hx hb d_B_formula_0 rfl (lv_at hl 0 rfl) ?_
  refine lv_iload_n hx hb d_B_formula_1 rfl (lv_at hl 1 rfl) ?_
  refine lv_iload_n hx hb d_B_formula_2 rfl (lv_at hl 2 rfl) ?_
  refine lv_iload_n hx hb d_B_formula_3 rfl (lv_at hl 3 rfl) ?_
  refine fn_V (ws' := (bsW ad cL cI nv nb nt nf na lv nm vw vp tw ab am w)) (w1 := (bsW ad cL cI nv nb nt nf na lv nm vw vp tw ab am w)) (wc := (bsW ad cL cI nv nb nt nf na lv nm vw vp tw ab am w)) (wr := []) ⟨hx, hb, hml, hown, hts⟩ (c_B_canBuildFormula l D ad cL cI nv nb nt nf na lv nm vw vp tw ab am w hok (nI 2) (nI ka) (nI kb)) ⟨callB_of 3 hts (gW wd_353) rfl rfl rfl (hts _ wd_1) (hts _ wd_350) hd_B_canBuildFormula ⟨Nat.le_of_ble_eq_true rfl, Nat.le_of_ble_eq_true rfl⟩, hts _ wd_352, hts _ wd_p19⟩ XT_ok (fun _ _ _ => trivial) hK hP hD hS hA 0 0 rfl rfl rfl [0, 1] [0, 1, 2, 3, 4, 5, 6, 7, 8] [] [0, 1, 2, 3, 4, 5, 6, 7, 8] rfl rfl rfl rfl rfl (by decide) rfl rfl rfl hl.1 rfl (Nat.le_of_ble_eq_true rfl) d_B_formula_4 ⟨Nat.zero_le _, Nat.zero_le _⟩ (st1 := [.int (bI (pF nt nf tw (nI 2) (nI ka) (nI kb)))]) rfl (fun H locs hP hD hS => ?_)
  refine b_if_ne (tgt := 18) hx hb d_B_formula_7 (by decide) (fun c_7 => ?_) (fun c_7 => ?_)
  · refine lv_aload_n hx hb d_B_formula_18 rfl (lv_at hl 0 rfl) ?_
    refine va_get (D := D) (ci := 0) (v := .int (nI nf)) (C := R_B) (T := F_B) (N := 14) hx hb hts in_B hown hK hP 0 rfl rfl 8 (by decide) (hts _ wd_55) (fun _ h9 => h9) rfl d_B_formula_19 ?_
    refine lv_bipush (v := nI 50) hx hb d_B_formula_22 (by decide) ?_
    refine z_icmp_lt (tgt := 35) hx hb (nI_toInt (by omega)) (nI_toInt (by omega)) d_B_formula_24 (by decide) (fun c_24 => ?_) (fun c_24 => ?_)
    · refine lv_iload_n hx hb d_B_formula_35 rfl (lv_at hl 1 rfl) ?_
      refine lv_iconst (v := nI 5) hx hb d_B_formula_36 (by decide) ?_
      refine z_icmp_gt (tgt := 50) hx hb (nI_toInt (by omega)) (nI_toInt (by omega)) d_B_formula_37 (by decide) (fun c_37 => ?_) (fun c_37 => ?_)
      · exact absurd c_37 (by omega)
      · refine lv_aload_n hx hb d_B_formula_40 rfl (lv_at hl 0 rfl) ?_
        refine lv_iload_n hx hb d_B_formula_41 rfl (lv_at hl 1 rfl) ?_
        refine lv_iload_n hx hb d_B_formula_42 rfl (lv_at hl 2 rfl) ?_
        refine lv_iload_n hx hb d_B_formula_43 rfl (lv_at hl 3 rfl) ?_
        refine fn_V (ws' := (bsW ad cL cI nv nb nt nf na lv nm vw vp tw ab am (cAtMost nf (50 + ka * 4) (50 + kb * 4) (tw ka) false w))) (w1 := (bsW ad cL cI nv nb nt nf na lv nm vw vp tw ab am (cAtMost nf (50 + ka * 4) (50 + kb * 4) (tw ka) false w))) (wc := (bsW ad cL cI nv nb nt nf na lv nm vw vp tw ab am w)) (wr := []) ⟨hx, hb, hml, hown, hts⟩ (c_B_buildRelation_2 l D ad cL cI nv nb nt nf na lv nm vw vp tw ab am w hok ka kb ha hb2 hnf) ⟨callB_of 3 hts (gW wd_357) rfl rfl rfl (hts _ wd_1) (hts _ wd_354) hd_B_buildRelation ⟨Nat.le_of_ble_eq_true rfl, Nat.le_of_ble_eq_true rfl⟩, hts _ wd_356, hts _ wd_p20⟩ XT_ok (fun _ _ _ => trivial) hK hP hD hS hA 0 0 rfl rfl rfl [0, 1] [0, 1, 2, 3, 4, 5, 6, 7, 8] [] [0, 1, 2, 3, 4, 5, 6, 7, 8] rfl rfl rfl rfl rfl (by decide) rfl rfl rfl hl.1 rfl (Nat.le_of_ble_eq_true rfl) d_B_formula_44 ⟨Nat.zero_le _, Nat.zero_le _⟩ (st1 := []) rfl (fun H locs hP hD hS => ?_)
        refine lv_goto (tgt := 57) hx hb d_B_formula_47 (by decide) ?_
        refine lv_aload_n hx hb d_B_formula_57 rfl (lv_at hl 0 rfl) ?_
        refine lv_dup hx hb d_B_formula_58 rfl ?_
        refine va_get (D := D) (ci := 0) (v := .int (nI nf)) (C := R_B) (T := F_B) (N := 14) hx hb hts in_B hown hK hP 0 rfl rfl 8 (by decide) (hts _ wd_55) (fun _ h9 => h9) rfl d_B_formula_59 ?_
        refine lv_iconst (v := nI 1) hx hb d_B_formula_62 (by decide) ?_
        refine n_add hx hb d_B_formula_63 ?_
        refine va_put (D := D) (ci := 0) (v := .int (nI (nf + 1))) (ty := .int) (C := R_B) (T := F_B) (N := 14) hx hb hts in_B t_B tok_B nm_B hown hK hP hD hS 0 rfl rfl 8 (by decide) (hts _ wd_55) (fun _ h9 => h9) rfl (by decide +kernel) rfl rfl (Nat.le_of_ble_eq_true rfl) d_B_formula_64 (fun H locs hP hD hS => ?_)
        have hP : va_P D cls (bsW ad cL cI nv nb nt (nf + 1) na lv nm vw vp tw ab am (cAtMost nf (50 + ka * 4) (50 + kb * 4) (tw ka) false w)) H := hP
        have hD : va_D A (bsW ad cL cI nv nb nt (nf + 1) na lv nm vw vp tw ab am (cAtMost nf (50 + ka * 4) (50 + kb * 4) (tw ka) false w)) := hD
        refine lv_aload_n hx hb d_B_formula_67 rfl (lv_at hl 0 rfl) ?_
        refine va_get (D := D) (ci := 0) (v := .int (nI (nf + 1))) (C := R_B) (T := F_B) (N := 14) hx hb hts in_B hown hK hP 0 rfl rfl 8 (by decide) (hts _ wd_55) (fun _ h9 => h9) rfl d_B_formula_68 ?_
        refine lv_iconst (v := nI 1) hx hb d_B_formula_71 (by decide) ?_
        refine n_sub hx hb (by omega) d_B_formula_72 ?_
        exact fn_iret hx hb hr hlocks hAe hK hP hD hS (by rw [Nat.add_sub_cancel]) d_B_formula_73
    · exact absurd c_24 (by omega)
  · exact absurd hf (by rw [c_7]; decide)
set_option maxHeartbeats 4000000 in
set_option maxRecDepth 100000 in
theorem c_B_formula_3 (l : Launch) (D : va_G) (ad : Nat → Nat) (cL cI : ClassId) (nv nb nt nf na lv nm : Nat) (vw vp tw ab am : Nat → Nat) (w : Nat → Int64) (hok : Bok nv nb nt nf na lv nm vw vp tw ab am) (ka kb : Nat) (ha : ka < nt) (hb2 : kb < nt) (hf : pF nt nf tw (nI 3) (nI ka) (nI kb) = true) (hnf : nf < 50) : Fn l y_B_formula (wk y_B_formula b_B_formula 4 (some .int)) rm_B_formula D cls [(cL, .long), (cI, .int)] [.ref (ad 0), .int (nI 3), .int (nI ka), .int (nI kb)] (bsW ad cL cI nv nb nt nf na lv nm vw vp tw ab am w) XT (some (.int (nI nf))) (bsW ad cL cI nv nb nt (nf + 1) na lv nm vw vp tw ab am (cLess nf (50 + ka * 4) (50 + kb * 4) (tw ka) true w)) := by
  refine Fn.of (by decide) rfl (Nat.le_of_ble_eq_true rfl) ?_
  intro p e s m below meth c A ls hx hb hml hr hts0 hown hlocks hnm hP hK hD hS hA hAe hX hl
  have hts : ∀ w ∈ lw_ok, w.before _ s = true := fun w h => hts0 w (List.mem_cons_of_mem _ h)
  have hown : s.vm.findClass R_B = some m.cls := hown
  have hP : va_P D cls (bsW ad cL cI nv nb nt nf na lv nm vw vp tw ab am w) s.heap := hP
  have hl : lv_has ls 4 [(0, .ref (ad 0)), (1, .int (nI 3)), (2, .int (nI ka)), (3, .int (nI kb))] := hl
  obtain ⟨o_nv, o_nb, o_nt, o_nf, o_na, o_lv, o_nm, o_vw, o_tw, o_am, o_ab⟩ := id hok
  refine lv_aload_n hx hb d_B_formula_0 rfl (lv_at hl 0 rfl) ?_
  refine lv_iload_n hx hb d_B_formula_1 rfl (lv_at hl 1 rfl) ?_
  refine lv_iload_n hx hb d_B_formula_2 rfl (lv_at hl 2 rfl) ?_
  refine lv_iload_n hx hb d_B_formula_3 rfl (lv_at hl 3 rfl) ?_
  refine fn_V (ws' := (bsW ad cL cI nv nb nt nf na lv nm vw vp tw ab am w)) (w1 := (bsW ad cL cI nv nb nt nf na lv nm vw vp tw ab am w)) (wc := (bsW ad cL cI nv nb nt nf na lv nm vw vp tw ab am w)) (wr := []) ⟨hx, hb, hml, hown, hts⟩ (c_B_canBuildFormula l D ad cL cI nv nb nt nf na lv nm vw vp tw ab am w hok (nI 3) (nI ka) (nI kb)) ⟨callB_of 3 hts (gW wd_353) rfl rfl rfl (hts _ wd_1) (hts _ wd_350) hd_B_canBuildFormula ⟨Nat.le_of_ble_eq_true rfl, Nat.le_of_ble_eq_true rfl⟩, hts _ wd_352, hts _ wd_p19⟩ XT_ok (fun _ _ _ => trivial) hK hP hD hS hA 0 0 rfl rfl rfl [0, 1] [0, 1, 2, 3, 4, 5, 6, 7, 8] [] [0, 1, 2, 3, 4, 5, 6, 7, 8] rfl rfl rfl rfl rfl (by decide) rfl rfl rfl hl.1 rfl (Nat.le_of_ble_eq_true rfl) d_B_formula_4 ⟨Nat.zero_le _, Nat.zero_le _⟩ (st1 := [.int (bI (pF nt nf tw (nI 3) (nI ka) (nI kb)))]) rfl (fun H locs hP hD hS => ?_)
  refine b_if_ne (tgt := 18) hx hb d_B_formula_7 (by decide) (fun c_7 => ?_) (fun c_7 => ?_)
  · refine lv_aload_n hx hb d_B_formula_18 rfl (lv_at hl 0 rfl) ?_
    refine va_get (D := D) (ci := 0) (v := .int (nI nf)) (C := R_B) (T := F_B) (N := 14) hx hb hts in_B hown hK hP 0 rfl rfl 8 (by decide) (hts _ wd_55) (fun _ h9 => h9) rfl d_B_formula_19 ?_
    refine lv_bipush (v := nI 50) hx hb d_B_formula_22 (by decide) ?_
    refine z_icmp_lt (tgt := 35) hx hb (nI_toInt (by omega)) (nI_toInt (by omega)) d_B_formula_24 (by decide) (fun c_24 => ?_) (fun c_24 => ?_)
    · refine lv_iload_n hx hb d_B_formula_35 rfl (lv_at hl 1 rfl) ?_
      refine lv_iconst (v := nI 5) hx hb d_B_formula_36 (by decide) ?_
      refine z_icmp_gt (tgt := 50) hx hb (nI_toInt (by omega)) (nI_toInt (by omega)) d_B_formula_37 (by decide) (fun c_37 => ?_) (fun c_37 => ?_)
      · exact absurd c_37 (by omega)
      · refine lv_aload_n hx hb d_B_formula_40 rfl (lv_at hl 0 rfl) ?_
        refine lv_iload_n hx hb d_B_formula_41 rfl (lv_at hl 1 rfl) ?_
        refine lv_iload_n hx hb d_B_formula_42 rfl (lv_at hl 2 rfl) ?_
        refine lv_iload_n hx hb d_B_formula_43 rfl (lv_at hl 3 rfl) ?_
        refine fn_V (ws' := (bsW ad cL cI nv nb nt nf na lv nm vw vp tw ab am (cLess nf (50 + ka * 4) (50 + kb * 4) (tw ka) true w))) (w1 := (bsW ad cL cI nv nb nt nf na lv nm vw vp tw ab am (cLess nf (50 + ka * 4) (50 + kb * 4) (tw ka) true w))) (wc := (bsW ad cL cI nv nb nt nf na lv nm vw vp tw ab am w)) (wr := []) ⟨hx, hb, hml, hown, hts⟩ (c_B_buildRelation_3 l D ad cL cI nv nb nt nf na lv nm vw vp tw ab am w hok ka kb ha hb2 hnf) ⟨callB_of 3 hts (gW wd_357) rfl rfl rfl (hts _ wd_1) (hts _ wd_354) hd_B_buildRelation ⟨Nat.le_of_ble_eq_true rfl, Nat.le_of_ble_eq_true rfl⟩, hts _ wd_356, hts _ wd_p20⟩ XT_ok (fun _ _ _ => trivial) hK hP hD hS hA 0 0 rfl rfl rfl [0, 1] [0, 1, 2, 3, 4, 5, 6, 7, 8] [] [0, 1, 2, 3, 4, 5, 6, 7, 8] rfl rfl rfl rfl rfl (by decide) rfl rfl rfl hl.1 rfl (Nat.le_of_ble_eq_true rfl) d_B_formula_44 ⟨Nat.zero_le _, Nat.zero_le _⟩ (st1 := []) rfl (fun H locs hP hD hS => ?_)
        refine lv_goto (tgt := 57) hx hb d_B_formula_47 (by decide) ?_
        refine lv_aload_n hx hb d_B_formula_57 rfl (lv_at hl 0 rfl) ?_
        refine lv_dup hx hb d_B_formula_58 rfl ?_
        refine va_get (D := D) (ci := 0) (v := .int (nI nf)) (C := R_B) (T := F_B) (N := 14) hx hb hts in_B hown hK hP 0 rfl rfl 8 (by decide) (hts _ wd_55) (fun _ h9 => h9) rfl d_B_formula_59 ?_
        refine lv_iconst (v := nI 1) hx hb d_B_formula_62 (by decide) ?_
        refine n_add hx hb d_B_formula_63 ?_
        refine va_put (D := D) (ci := 0) (v := .int (nI (nf + 1))) (ty := .int) (C := R_B) (T := F_B) (N := 14) hx hb hts in_B t_B tok_B nm_B hown hK hP hD hS 0 rfl rfl 8 (by decide) (hts _ wd_55) (fun _ h9 => h9) rfl (by decide +kernel) rfl rfl (Nat.le_of_ble_eq_true rfl) d_B_formula_64 (fun H locs hP hD hS => ?_)
        have hP : va_P D cls (bsW ad cL cI nv nb nt (nf + 1) na lv nm vw vp tw ab am (cLess nf (50 + ka * 4) (50 + kb * 4) (tw ka) true w)) H := hP
        have hD : va_D A (bsW ad cL cI nv nb nt (nf + 1) na lv nm vw vp tw ab am (cLess nf (50 + ka * 4) (50 + kb * 4) (tw ka) true w)) := hD
        refine lv_aload_n hx hb d_B_formula_67 rfl (lv_at hl 0 rfl) ?_
        refine va_get (D := D) (ci := 0) (v := .int (nI (nf + 1))) (C := R_B) (T := F_B) (N := 14) hx hb hts in_B hown hK hP 0 rfl rfl 8 (by decide) (hts _ wd_55) (fun _ h9 => h9) rfl d_B_formula_68 ?_
        refine lv_iconst (v := nI 1) hx hb d_B_formula_71 (by decide) ?_
        refine n_sub hx hb (by omega) d_B_formula_72 ?_
        exact fn_iret hx hb hr hlocks hAe hK hP hD hS (by rw [Nat.add_sub_cancel]) d_B_formula_73
    · exact absurd c_24 (by omega)
  · exact absurd hf (by rw [c_7]; decide)
set_option maxHeartbeats 4000000 in
set_option maxRecDepth 100000 in
theorem c_B_formula_4 (l : Launch) (D : va_G) (ad : Nat → Nat) (cL cI : ClassId) (nv nb nt nf na lv nm : Nat) (vw vp tw ab am : Nat → Nat) (w : Nat → Int64) (hok : Bok nv nb nt nf na lv nm vw vp tw ab am) (ka kb : Nat) (ha : ka < nt) (hb2 : kb < nt) (hf : pF nt nf tw (nI 4) (nI ka) (nI kb) = true) (hnf : nf < 50) : Fn l y_B_formula (wk y_B_formula b_B_formula 4 (some .int)) rm_B_formula D cls [(cL, .long), (cI, .int)] [.ref (ad 0), .int (nI 4), .int (nI ka), .int (nI kb)] (bsW ad cL cI nv nb nt nf na lv nm vw vp tw ab am w) XT (some (.int (nI nf))) (bsW ad cL cI nv nb nt (nf + 1) na lv nm vw vp tw ab am (cAtMost nf (50 + ka * 4) (50 + kb * 4) (tw ka) true w)) := by
  refine Fn.of (by decide) rfl (Nat.le_of_ble_eq_true rfl) ?_
  intro p e s m below meth c A ls hx hb hml hr hts0 hown hlocks hnm hP hK hD hS hA hAe hX hl
  have hts : ∀ w ∈ lw_ok, w.before _ s = true := fun w h => hts0 w (List.mem_cons_of_mem _ h)
  have hown : s.vm.findClass R_B = some m.cls := hown
  have hP : va_P D cls (bsW ad cL cI nv nb nt nf na lv nm vw vp tw ab am w) s.heap := hP
  have hl : lv_has ls 4 [(0, .ref (ad 0)), (1, .int (nI 4)), (2, .int (nI ka)), (3, .int (nI kb))] := hl
  obtain ⟨o_nv, o_nb, o_nt, o_nf, o_na, o_lv, o_nm, o_vw, o_tw, o_am, o_ab⟩ := id hok
  refine lv_aload_n hx hb d_B_formula_0 rfl (lv_at hl 0 rfl) ?_
  refine lv_iload_n hx hb d_B_formula_1 rfl (lv_at hl 1 rfl) ?_
  refine lv_iload_n hx hb d_B_formula_2 rfl (lv_at hl 2 rfl) ?_
  refine lv_iload_n hx hb d_B_formula_3 rfl (lv_at hl 3 rfl) ?_
  refine fn_V (ws' := (bsW ad cL cI nv nb nt nf na lv nm vw vp tw ab am w)) (w1 := (bsW ad cL cI nv nb nt nf na lv nm vw vp tw ab am w)) (wc := (bsW ad cL cI nv nb nt nf na lv nm vw vp tw ab am w)) (wr := []) ⟨hx, hb, hml, hown, hts⟩ (c_B_canBuildFormula l D ad cL cI nv nb nt nf na lv nm vw vp tw ab am w hok (nI 4) (nI ka) (nI kb)) ⟨callB_of 3 hts (gW wd_353) rfl rfl rfl (hts _ wd_1) (hts _ wd_350) hd_B_canBuildFormula ⟨Nat.le_of_ble_eq_true rfl, Nat.le_of_ble_eq_true rfl⟩, hts _ wd_352, hts _ wd_p19⟩ XT_ok (fun _ _ _ => trivial) hK hP hD hS hA 0 0 rfl rfl rfl [0, 1] [0, 1, 2, 3, 4, 5, 6, 7, 8] [] [0, 1, 2, 3, 4, 5, 6, 7, 8] rfl rfl rfl rfl rfl (by decide) rfl rfl rfl hl.1 rfl (Nat.le_of_ble_eq_true rfl) d_B_formula_4 ⟨Nat.zero_le _, Nat.zero_le _⟩ (st1 := [.int (bI (pF nt nf tw (nI 4) (nI ka) (nI kb)))]) rfl (fun H locs hP hD hS => ?_)
  refine b_if_ne (tgt := 18) hx hb d_B_formula_7 (by decide) (fun c_7 => ?_) (fun c_7 => ?_)
  · refine lv_aload_n hx hb d_B_formula_18 rfl (lv_at hl 0 rfl) ?_
    refine va_get (D := D) (ci := 0) (v := .int (nI nf)) (C := R_B) (T := F_B) (N := 14) hx hb hts in_B hown hK hP 0 rfl rfl 8 (by decide) (hts _ wd_55) (fun _ h9 => h9) rfl d_B_formula_19 ?_
    refine lv_bipush (v := nI 50) hx hb d_B_formula_22 (by decide) ?_
    refine z_icmp_lt (tgt := 35) hx hb (nI_toInt (by omega)) (nI_toInt (by omega)) d_B_formula_24 (by decide) (fun c_24 => ?_) (fun c_24 => ?_)
    · refine lv_iload_n hx hb d_B_formula_35 rfl (lv_at hl 1 rfl) ?_
      refine lv_iconst (v := nI 5) hx hb d_B_formula_36 (by decide) ?_
      refine z_icmp_gt (tgt := 50) hx hb (nI_toInt (by omega)) (nI_toInt (by omega)) d_B_formula_37 (by decide) (fun c_37 => ?_) (fun c_37 => ?_)
      · exact absurd c_37 (by omega)
      · refine lv_aload_n hx hb d_B_formula_40 rfl (lv_at hl 0 rfl) ?_
        refine lv_iload_n hx hb d_B_formula_41 rfl (lv_at hl 1 rfl) ?_
        refine lv_iload_n hx hb d_B_formula_42 rfl (lv_at hl 2 rfl) ?_
        refine lv_iload_n hx hb d_B_formula_43 rfl (lv_at hl 3 rfl) ?_
        refine fn_V (ws' := (bsW ad cL cI nv nb nt nf na lv nm vw vp tw ab am (cAtMost nf (50 + ka * 4) (50 + kb * 4) (tw ka) true w))) (w1 := (bsW ad cL cI nv nb nt nf na lv nm vw vp tw ab am (cAtMost nf (50 + ka * 4) (50 + kb * 4) (tw ka) true w))) (wc := (bsW ad cL cI nv nb nt nf na lv nm vw vp tw ab am w)) (wr := []) ⟨hx, hb, hml, hown, hts⟩ (c_B_buildRelation_4 l D ad cL cI nv nb nt nf na lv nm vw vp tw ab am w hok ka kb ha hb2 hnf) ⟨callB_of 3 hts (gW wd_357) rfl rfl rfl (hts _ wd_1) (hts _ wd_354) hd_B_buildRelation ⟨Nat.le_of_ble_eq_true rfl, Nat.le_of_ble_eq_true rfl⟩, hts _ wd_356, hts _ wd_p20⟩ XT_ok (fun _ _ _ => trivial) hK hP hD hS hA 0 0 rfl rfl rfl [0, 1] [0, 1, 2, 3, 4, 5, 6, 7, 8] [] [0, 1, 2, 3, 4, 5, 6, 7, 8] rfl rfl rfl rfl rfl (by decide) rfl rfl rfl hl.1 rfl (Nat.le_of_ble_eq_true rfl) d_B_formula_44 ⟨Nat.zero_le _, Nat.zero_le _⟩ (st1 := []) rfl (fun H locs hP hD hS => ?_)
        refine lv_goto (tgt := 57) hx hb d_B_formula_47 (by decide) ?_
        refine lv_aload_n hx hb d_B_formula_57 rfl (lv_at hl 0 rfl) ?_
        refine lv_dup hx hb d_B_formula_58 rfl ?_
        refine va_get (D := D) (ci := 0) (v := .int (nI nf)) (C := R_B) (T := F_B) (N := 14) hx hb hts in_B hown hK hP 0 rfl rfl 8 (by decide) (hts _ wd_55) (fun _ h9 => h9) rfl d_B_formula_59 ?_
        refine lv_iconst (v := nI 1) hx hb d_B_formula_62 (by decide) ?_
        refine n_add hx hb d_B_formula_63 ?_
        refine va_put (D := D) (ci := 0) (v := .int (nI (nf + 1))) (ty := .int) (C := R_B) (T := F_B) (N := 14) hx hb hts in_B t_B tok_B nm_B hown hK hP hD hS 0 rfl rfl 8 (by decide) (hts _ wd_55) (fun _ h9 => h9) rfl (by decide +kernel) rfl rfl (Nat.le_of_ble_eq_true rfl) d_B_formula_64 (fun H locs hP hD hS => ?_)
        have hP : va_P D cls (bsW ad cL cI nv nb nt (nf + 1) na lv nm vw vp tw ab am (cAtMost nf (50 + ka * 4) (50 + kb * 4) (tw ka) true w)) H := hP
        have hD : va_D A (bsW ad cL cI nv nb nt (nf + 1) na lv nm vw vp tw ab am (cAtMost nf (50 + ka * 4) (50 + kb * 4) (tw ka) true w)) := hD
        refine lv_aload_n hx hb d_B_formula_67 rfl (lv_at hl 0 rfl) ?_
        refine va_get (D := D) (ci := 0) (v := .int (nI (nf + 1))) (C := R_B) (T := F_B) (N := 14) hx hb hts in_B hown hK hP 0 rfl rfl 8 (by decide) (hts _ wd_55) (fun _ h9 => h9) rfl d_B_formula_68 ?_
        refine lv_iconst (v := nI 1) hx hb d_B_formula_71 (by decide) ?_
        refine n_sub hx hb (by omega) d_B_formula_72 ?_
        exact fn_iret hx hb hr hlocks hAe hK hP hD hS (by rw [Nat.add_sub_cancel]) d_B_formula_73
    · exact absurd c_24 (by omega)
  · exact absurd hf (by rw [c_7]; decide)
set_option maxHeartbeats 4000000 in
set_option maxRecDepth 100000 in
theorem c_B_formula_5 (l : Launch) (D : va_G) (ad : Nat → Nat) (cL cI : ClassId) (nv nb nt nf na lv nm : Nat) (vw vp tw ab am : Nat → Nat) (w : Nat → Int64) (hok : Bok nv nb nt nf na lv nm vw vp tw ab am) (ka kb : Nat) (ha : ka < nt) (hb2 : kb < 4) (hf : pF nt nf tw (nI 5) (nI ka) (nI kb) = true) (hnf : nf < 50) : Fn l y_B_formula (wk y_B_formula b_B_formula 4 (some .int)) rm_B_formula D cls [(cL, .long), (cI, .int)] [.ref (ad 0), .int (nI 5), .int (nI ka), .int (nI kb)] (bsW ad cL cI nv nb nt nf na lv nm vw vp tw ab am w) XT (some (.int (nI nf))) (bsW ad cL cI nv nb nt (nf + 1) na lv nm vw vp tw ab am (oCopy nf ((50 + ka * 4) + kb) 1 w)) := by
  refine Fn.of (by decide) rfl (Nat.le_of_ble_eq_true rfl) ?_
  intro p e s m below meth c A ls hx hb hml hr hts0 hown hlocks hnm hP hK hD hS hA hAe hX hl
  have hts : ∀ w ∈ lw_ok, w.before _ s = true := fun w h => hts0 w (List.mem_cons_of_mem _ h)
  have hown : s.vm.findClass R_B = some m.cls := hown
  have hP : va_P D cls (bsW ad cL cI nv nb nt nf na lv nm vw vp tw ab am w) s.heap := hP
  have hl : lv_has ls 4 [(0, .ref (ad 0)), (1, .int (nI 5)), (2, .int (nI ka)), (3, .int (nI kb))] := hl
  obtain ⟨o_nv, o_nb, o_nt, o_nf, o_na, o_lv, o_nm, o_vw, o_tw, o_am, o_ab⟩ := id hok
  refine lv_aload_n hx hb d_B_formula_0 rfl (lv_at hl 0 rfl) ?_
  refine lv_iload_n hx hb d_B_formula_1 rfl (lv_at hl 1 rfl) ?_
  refine lv_iload_n hx hb d_B_formula_2 rfl (lv_at hl 2 rfl) ?_
  refine lv_iload_n hx hb d_B_formula_3 rfl (lv_at hl 3 rfl) ?_
  refine fn_V (ws' := (bsW ad cL cI nv nb nt nf na lv nm vw vp tw ab am w)) (w1 := (bsW ad cL cI nv nb nt nf na lv nm vw vp tw ab am w)) (wc := (bsW ad cL cI nv nb nt nf na lv nm vw vp tw ab am w)) (wr := []) ⟨hx, hb, hml, hown, hts⟩ (c_B_canBuildFormula l D ad cL cI nv nb nt nf na lv nm vw vp tw ab am w hok (nI 5) (nI ka) (nI kb)) ⟨callB_of 3 hts (gW wd_353) rfl rfl rfl (hts _ wd_1) (hts _ wd_350) hd_B_canBuildFormula ⟨Nat.le_of_ble_eq_true rfl, Nat.le_of_ble_eq_true rfl⟩, hts _ wd_352, hts _ wd_p19⟩ XT_ok (fun _ _ _ => trivial) hK hP hD hS hA 0 0 rfl rfl rfl [0, 1] [0, 1, 2, 3, 4, 5, 6, 7, 8] [] [0, 1, 2, 3, 4, 5, 6, 7, 8] rfl rfl rfl rfl rfl (by decide) rfl rfl rfl hl.1 rfl (Nat.le_of_ble_eq_true rfl) d_B_formula_4 ⟨Nat.zero_le _, Nat.zero_le _⟩ (st1 := [.int (bI (pF nt nf tw (nI 5) (nI ka) (nI kb)))]) rfl (fun H locs hP hD hS => ?_)
  refine b_if_ne (tgt := 18) hx hb d_B_formula_7 (by decide) (fun c_7 => ?_) (fun c_7 => ?_)
  · refine lv_aload_n hx hb d_B_formula_18 rfl (lv_at hl 0 rfl) ?_
    refine va_get (D := D) (ci := 0) (v := .int (nI nf)) (C := R_B) (T := F_B) (N := 14) hx hb hts in_B hown hK hP 0 rfl rfl 8 (by decide) (hts _ wd_55) (fun _ h9 => h9) rfl d_B_formula_19 ?_
    refine lv_bipush (v := nI 50) hx hb d_B_formula_22 (by decide) ?_
    refine z_icmp_lt (tgt := 35) hx hb (nI_toInt (by omega)) (nI_toInt (by omega)) d_B_formula_24 (by decide) (fun c_24 => ?_) (fun c_24 => ?_)
    · refine lv_iload_n hx hb d_B_formula_35 rfl (lv_at hl 1 rfl) ?_
      refine lv_iconst (v := nI 5) hx hb d_B_formula_36 (by decide) ?_
      refine z_icmp_gt (tgt := 50) hx hb (nI_toInt (by omega)) (nI_toInt (by omega)) d_B_formula_37 (by decide) (fun c_37 => ?_) (fun c_37 => ?_)
      · exact absurd c_37 (by omega)
      · refine lv_aload_n hx hb d_B_formula_40 rfl (lv_at hl 0 rfl) ?_
        refine lv_iload_n hx hb d_B_formula_41 rfl (lv_at hl 1 rfl) ?_
        refine lv_iload_n hx hb d_B_formula_42 rfl (lv_at hl 2 rfl) ?_
        refine lv_iload_n hx hb d_B_formula_43 rfl (lv_at hl 3 rfl) ?_
        refine fn_V (ws' := (bsW ad cL cI nv nb nt nf na lv nm vw vp tw ab am (oCopy nf ((50 + ka * 4) + kb) 1 w))) (w1 := (bsW ad cL cI nv nb nt nf na lv nm vw vp tw ab am (oCopy nf ((50 + ka * 4) + kb) 1 w))) (wc := (bsW ad cL cI nv nb nt nf na lv nm vw vp tw ab am w)) (wr := []) ⟨hx, hb, hml, hown, hts⟩ (c_B_buildRelation_5 l D ad cL cI nv nb nt nf na lv nm vw vp tw ab am w hok ka kb ha hb2 hnf) ⟨callB_of 3 hts (gW wd_357) rfl rfl rfl (hts _ wd_1) (hts _ wd_354) hd_B_buildRelation ⟨Nat.le_of_ble_eq_true rfl, Nat.le_of_ble_eq_true rfl⟩, hts _ wd_356, hts _ wd_p20⟩ XT_ok (fun _ _ _ => trivial) hK hP hD hS hA 0 0 rfl rfl rfl [0, 1] [0, 1, 2, 3, 4, 5, 6, 7, 8] [] [0, 1, 2, 3, 4, 5, 6, 7, 8] rfl rfl rfl rfl rfl (by decide) rfl rfl rfl hl.1 rfl (Nat.le_of_ble_eq_true rfl) d_B_formula_44 ⟨Nat.zero_le _, Nat.zero_le _⟩ (st1 := []) rfl (fun H locs hP hD hS => ?_)
        refine lv_goto (tgt := 57) hx hb d_B_formula_47 (by decide) ?_
        refine lv_aload_n hx hb d_B_formula_57 rfl (lv_at hl 0 rfl) ?_
        refine lv_dup hx hb d_B_formula_58 rfl ?_
        refine va_get (D := D) (ci := 0) (v := .int (nI nf)) (C := R_B) (T := F_B) (N := 14) hx hb hts in_B hown hK hP 0 rfl rfl 8 (by decide) (hts _ wd_55) (fun _ h9 => h9) rfl d_B_formula_59 ?_
        refine lv_iconst (v := nI 1) hx hb d_B_formula_62 (by decide) ?_
        refine n_add hx hb d_B_formula_63 ?_
        refine va_put (D := D) (ci := 0) (v := .int (nI (nf + 1))) (ty := .int) (C := R_B) (T := F_B) (N := 14) hx hb hts in_B t_B tok_B nm_B hown hK hP hD hS 0 rfl rfl 8 (by decide) (hts _ wd_55) (fun _ h9 => h9) rfl (by decide +kernel) rfl rfl (Nat.le_of_ble_eq_true rfl) d_B_formula_64 (fun H locs hP hD hS => ?_)
        have hP : va_P D cls (bsW ad cL cI nv nb nt (nf + 1) na lv nm vw vp tw ab am (oCopy nf ((50 + ka * 4) + kb) 1 w)) H := hP
        have hD : va_D A (bsW ad cL cI nv nb nt (nf + 1) na lv nm vw vp tw ab am (oCopy nf ((50 + ka * 4) + kb) 1 w)) := hD
        refine lv_aload_n hx hb d_B_formula_67 rfl (lv_at hl 0 rfl) ?_
        refine va_get (D := D) (ci := 0) (v := .int (nI (nf + 1))) (C := R_B) (T := F_B) (N := 14) hx hb hts in_B hown hK hP 0 rfl rfl 8 (by decide) (hts _ wd_55) (fun _ h9 => h9) rfl d_B_formula_68 ?_
        refine lv_iconst (v := nI 1) hx hb d_B_formula_71 (by decide) ?_
        refine n_sub hx hb (by omega) d_B_formula_72 ?_
        exact fn_iret hx hb hr hlocks hAe hK hP hD hS (by rw [Nat.add_sub_cancel]) d_B_formula_73
    · exact absurd c_24 (by omega)
  · exact absurd hf (by rw [c_7]; decide)
set_option maxHeartbeats 4000000 in
set_option maxRecDepth 100000 in
theorem c_B_formula_6 (l : Launch) (D : va_G) (ad : Nat → Nat) (cL cI : ClassId) (nv nb nt nf na lv nm : Nat) (vw vp tw ab am : Nat → Nat) (w : Nat → Int64) (hok : Bok nv nb nt nf na lv nm vw vp tw ab am) (ka : Nat) (kb : Int32) (ha : ka < nf) (hf : pF nt nf tw (nI 6) (nI ka) kb = true) (hnf : nf < 50) : Fn l y_B_formula (wk y_B_formula b_B_formula 4 (some .int)) rm_B_formula D cls [(cL, .long), (cI, .int)] [.ref (ad 0), .int (nI 6), .int (nI ka), .int kb] (bsW ad cL cI nv nb nt nf na lv nm vw vp tw ab am w) XT (some (.int (nI nf))) (bsW ad cL cI nv nb nt (nf + 1) na lv nm vw vp tw ab am (oTurn nf ka 1 w)) := by
  refine Fn.of (by decide) rfl (Nat.le_of_ble_eq_true rfl) ?_
  intro p e s m below meth c A ls hx hb hml hr hts0 hown hlocks hnm hP hK hD hS hA hAe hX hl
  have hts : ∀ w ∈ lw_ok, w.before _ s = true := fun w h => hts0 w (List.mem_cons_of_mem _ h)
  have hown : s.vm.findClass R_B = some m.cls := hown
  have hP : va_P D cls (bsW ad cL cI nv nb nt nf na lv nm vw vp tw ab am w) s.heap := hP
  have hl : lv_has ls 4 [(0, .ref (ad 0)), (1, .int (nI 6)), (2, .int (nI ka)), (3, .int kb)] := hl
  obtain ⟨o_nv, o_nb, o_nt, o_nf, o_na, o_lv, o_nm, o_vw, o_tw, o_am, o_ab⟩ := id hok
  refine lv_aload_n hx hb d_B_formula_0 rfl (lv_at hl 0 rfl) ?_
  refine lv_iload_n hx hb d_B_formula_1 rfl (lv_at hl 1 rfl) ?_
  refine lv_iload_n hx hb d_B_formula_2 rfl (lv_at hl 2 rfl) ?_
  refine lv_iload_n hx hb d_B_formula_3 rfl (lv_at hl 3 rfl) ?_
  refine fn_V (ws' := (bsW ad cL cI nv nb nt nf na lv nm vw vp tw ab am w)) (w1 := (bsW ad cL cI nv nb nt nf na lv nm vw vp tw ab am w)) (wc := (bsW ad cL cI nv nb nt nf na lv nm vw vp tw ab am w)) (wr := []) ⟨hx, hb, hml, hown, hts⟩ (c_B_canBuildFormula l D ad cL cI nv nb nt nf na lv nm vw vp tw ab am w hok (nI 6) (nI ka) kb) ⟨callB_of 3 hts (gW wd_353) rfl rfl rfl (hts _ wd_1) (hts _ wd_350) hd_B_canBuildFormula ⟨Nat.le_of_ble_eq_true rfl, Nat.le_of_ble_eq_true rfl⟩, hts _ wd_352, hts _ wd_p19⟩ XT_ok (fun _ _ _ => trivial) hK hP hD hS hA 0 0 rfl rfl rfl [0, 1] [0, 1, 2, 3, 4, 5, 6, 7, 8] [] [0, 1, 2, 3, 4, 5, 6, 7, 8] rfl rfl rfl rfl rfl (by decide) rfl rfl rfl hl.1 rfl (Nat.le_of_ble_eq_true rfl) d_B_formula_4 ⟨Nat.zero_le _, Nat.zero_le _⟩ (st1 := [.int (bI (pF nt nf tw (nI 6) (nI ka) kb))]) rfl (fun H locs hP hD hS => ?_)
  refine b_if_ne (tgt := 18) hx hb d_B_formula_7 (by decide) (fun c_7 => ?_) (fun c_7 => ?_)
  · refine lv_aload_n hx hb d_B_formula_18 rfl (lv_at hl 0 rfl) ?_
    refine va_get (D := D) (ci := 0) (v := .int (nI nf)) (C := R_B) (T := F_B) (N := 14) hx hb hts in_B hown hK hP 0 rfl rfl 8 (by decide) (hts _ wd_55) (fun _ h9 => h9) rfl d_B_formula_19 ?_
    refine lv_bipush (v := nI 50) hx hb d_B_formula_22 (by decide) ?_
    refine z_icmp_lt (tgt := 35) hx hb (nI_toInt (by omega)) (nI_toInt (by omega)) d_B_formula_24 (by decide) (fun c_24 => ?_) (fun c_24 => ?_)
    · refine lv_iload_n hx hb d_B_formula_35 rfl (lv_at hl 1 rfl) ?_
      refine lv_iconst (v := nI 5) hx hb d_B_formula_36 (by decide) ?_
      refine z_icmp_gt (tgt := 50) hx hb (nI_toInt (by omega)) (nI_toInt (by omega)) d_B_formula_37 (by decide) (fun c_37 => ?_) (fun c_37 => ?_)
      · refine lv_aload_n hx hb d_B_formula_50 rfl (lv_at hl 0 rfl) ?_
        refine lv_iload_n hx hb d_B_formula_51 rfl (lv_at hl 1 rfl) ?_
        refine lv_iload_n hx hb d_B_formula_52 rfl (lv_at hl 2 rfl) ?_
        refine lv_iload_n hx hb d_B_formula_53 rfl (lv_at hl 3 rfl) ?_
        refine fn_V (ws' := (bsW ad cL cI nv nb nt nf na lv nm vw vp tw ab am (oTurn nf ka 1 w))) (w1 := (bsW ad cL cI nv nb nt nf na lv nm vw vp tw ab am (oTurn nf ka 1 w))) (wc := (bsW ad cL cI nv nb nt nf na lv nm vw vp tw ab am w)) (wr := []) ⟨hx, hb, hml, hown, hts⟩ (c_B_buildConnective_6 l D ad cL cI nv nb nt nf na lv nm vw vp tw ab am w hok ka kb ha hnf) ⟨callB_of 3 hts (gW wd_378) rfl rfl rfl (hts _ wd_1) (hts _ wd_375) hd_B_buildConnective ⟨Nat.le_of_ble_eq_true rfl, Nat.le_of_ble_eq_true rfl⟩, hts _ wd_377, hts _ wd_p21⟩ XT_ok (fun _ _ _ => trivial) hK hP hD hS hA 0 0 rfl rfl rfl [0, 1] [0, 1, 2, 3, 4, 5, 6, 7, 8] [] [0, 1, 2, 3, 4, 5, 6, 7, 8] rfl rfl rfl rfl rfl (by decide) rfl rfl rfl hl.1 rfl (Nat.le_of_ble_eq_true rfl) d_B_formula_54 ⟨Nat.zero_le _, Nat.zero_le _⟩ (st1 := []) rfl (fun H locs hP hD hS => ?_)
        refine lv_aload_n hx hb d_B_formula_57 rfl (lv_at hl 0 rfl) ?_
        refine lv_dup hx hb d_B_formula_58 rfl ?_
        refine va_get (D := D) (ci := 0) (v := .int (nI nf)) (C := R_B) (T := F_B) (N := 14) hx hb hts in_B hown hK hP 0 rfl rfl 8 (by decide) (hts _ wd_55) (fun _ h9 => h9) rfl d_B_formula_59 ?_
        refine lv_iconst (v := nI 1) hx hb d_B_formula_62 (by decide) ?_
        refine n_add hx hb d_B_formula_63 ?_
        refine va_put (D := D) (ci := 0) (v := .int (nI (nf + 1))) (ty := .int) (C := R_B) (T := F_B) (N := 14) hx hb hts in_B t_B tok_B nm_B hown hK hP hD hS 0 rfl rfl 8 (by decide) (hts _ wd_55) (fun _ h9 => h9) rfl (by decide +kernel) rfl rfl (Nat.le_of_ble_eq_true rfl) d_B_formula_64 (fun H locs hP hD hS => ?_)
        have hP : va_P D cls (bsW ad cL cI nv nb nt (nf + 1) na lv nm vw vp tw ab am (oTurn nf ka 1 w)) H := hP
        have hD : va_D A (bsW ad cL cI nv nb nt (nf + 1) na lv nm vw vp tw ab am (oTurn nf ka 1 w)) := hD
        refine lv_aload_n hx hb d_B_formula_67 rfl (lv_at hl 0 rfl) ?_
        refine va_get (D := D) (ci := 0) (v := .int (nI (nf + 1))) (C := R_B) (T := F_B) (N := 14) hx hb hts in_B hown hK hP 0 rfl rfl 8 (by decide) (hts _ wd_55) (fun _ h9 => h9) rfl d_B_formula_68 ?_
        refine lv_iconst (v := nI 1) hx hb d_B_formula_71 (by decide) ?_
        refine n_sub hx hb (by omega) d_B_formula_72 ?_
        exact fn_iret hx hb hr hlocks hAe hK hP hD hS (by rw [Nat.add_sub_cancel]) d_B_formula_73
      · exact absurd c_37 (by omega)
    · exact absurd c_24 (by omega)
  · exact absurd hf (by rw [c_7]; decide)
set_option maxHeartbeats 4000000 in
set_option maxRecDepth 100000 in
theorem c_B_formula_7 (l : Launch) (D : va_G) (ad : Nat → Nat) (cL cI : ClassId) (nv nb nt nf na lv nm : Nat) (vw vp tw ab am : Nat → Nat) (w : Nat → Int64) (hok : Bok nv nb nt nf na lv nm vw vp tw ab am) (ka kb : Nat) (ha : ka < nf) (hb2 : kb < nf) (hf : pF nt nf tw (nI 7) (nI ka) (nI kb) = true) (hnf : nf < 50) : Fn l y_B_formula (wk y_B_formula b_B_formula 4 (some .int)) rm_B_formula D cls [(cL, .long), (cI, .int)] [.ref (ad 0), .int (nI 7), .int (nI ka), .int (nI kb)] (bsW ad cL cI nv nb nt nf na lv nm vw vp tw ab am w) XT (some (.int (nI nf))) (bsW ad cL cI nv nb nt (nf + 1) na lv nm vw vp tw ab am (oAnd nf ka kb 1 w)) := by
  refine Fn.of (by decide) rfl (Nat.le_of_ble_eq_true rfl) ?_
  intro p e s m below meth c A ls hx hb hml hr hts0 hown hlocks hnm hP hK hD hS hA hAe hX hl
  have hts : ∀ w ∈ lw_ok, w.before _ s = true := fun w h => hts0 w (List.mem_cons_of_mem _ h)
  have hown : s.vm.findClass R_B = some m.cls := hown
  have hP : va_P D cls (bsW ad cL cI nv nb nt nf na lv nm vw vp tw ab am w) s.heap := hP
  have hl : lv_has ls 4 [(0, .ref (ad 0)), (1, .int (nI 7)), (2, .int (nI ka)), (3, .int (nI kb))] := hl
  obtain ⟨o_nv, o_nb, o_nt, o_nf, o_na, o_lv, o_nm, o_vw, o_tw, o_am, o_ab⟩ := id hok
  refine lv_aload_n hx hb d_B_formula_0 rfl (lv_at hl 0 rfl) ?_
  refine lv_iload_n hx hb d_B_formula_1 rfl (lv_at hl 1 rfl) ?_
  refine lv_iload_n hx hb d_B_formula_2 rfl (lv_at hl 2 rfl) ?_
  refine lv_iload_n hx hb d_B_formula_3 rfl (lv_at hl 3 rfl) ?_
  refine fn_V (ws' := (bsW ad cL cI nv nb nt nf na lv nm vw vp tw ab am w)) (w1 := (bsW ad cL cI nv nb nt nf na lv nm vw vp tw ab am w)) (wc := (bsW ad cL cI nv nb nt nf na lv nm vw vp tw ab am w)) (wr := []) ⟨hx, hb, hml, hown, hts⟩ (c_B_canBuildFormula l D ad cL cI nv nb nt nf na lv nm vw vp tw ab am w hok (nI 7) (nI ka) (nI kb)) ⟨callB_of 3 hts (gW wd_353) rfl rfl rfl (hts _ wd_1) (hts _ wd_350) hd_B_canBuildFormula ⟨Nat.le_of_ble_eq_true rfl, Nat.le_of_ble_eq_true rfl⟩, hts _ wd_352, hts _ wd_p19⟩ XT_ok (fun _ _ _ => trivial) hK hP hD hS hA 0 0 rfl rfl rfl [0, 1] [0, 1, 2, 3, 4, 5, 6, 7, 8] [] [0, 1, 2, 3, 4, 5, 6, 7, 8] rfl rfl rfl rfl rfl (by decide) rfl rfl rfl hl.1 rfl (Nat.le_of_ble_eq_true rfl) d_B_formula_4 ⟨Nat.zero_le _, Nat.zero_le _⟩ (st1 := [.int (bI (pF nt nf tw (nI 7) (nI ka) (nI kb)))]) rfl (fun H locs hP hD hS => ?_)
  refine b_if_ne (tgt := 18) hx hb d_B_formula_7 (by decide) (fun c_7 => ?_) (fun c_7 => ?_)
  · refine lv_aload_n hx hb d_B_formula_18 rfl (lv_at hl 0 rfl) ?_
    refine va_get (D := D) (ci := 0) (v := .int (nI nf)) (C := R_B) (T := F_B) (N := 14) hx hb hts in_B hown hK hP 0 rfl rfl 8 (by decide) (hts _ wd_55) (fun _ h9 => h9) rfl d_B_formula_19 ?_
    refine lv_bipush (v := nI 50) hx hb d_B_formula_22 (by decide) ?_
    refine z_icmp_lt (tgt := 35) hx hb (nI_toInt (by omega)) (nI_toInt (by omega)) d_B_formula_24 (by decide) (fun c_24 => ?_) (fun c_24 => ?_)
    · refine lv_iload_n hx hb d_B_formula_35 rfl (lv_at hl 1 rfl) ?_
      refine lv_iconst (v := nI 5) hx hb d_B_formula_36 (by decide) ?_
      refine z_icmp_gt (tgt := 50) hx hb (nI_toInt (by omega)) (nI_toInt (by omega)) d_B_formula_37 (by decide) (fun c_37 => ?_) (fun c_37 => ?_)
      · refine lv_aload_n hx hb d_B_formula_50 rfl (lv_at hl 0 rfl) ?_
        refine lv_iload_n hx hb d_B_formula_51 rfl (lv_at hl 1 rfl) ?_
        refine lv_iload_n hx hb d_B_formula_52 rfl (lv_at hl 2 rfl) ?_
        refine lv_iload_n hx hb d_B_formula_53 rfl (lv_at hl 3 rfl) ?_
        refine fn_V (ws' := (bsW ad cL cI nv nb nt nf na lv nm vw vp tw ab am (oAnd nf ka kb 1 w))) (w1 := (bsW ad cL cI nv nb nt nf na lv nm vw vp tw ab am (oAnd nf ka kb 1 w))) (wc := (bsW ad cL cI nv nb nt nf na lv nm vw vp tw ab am w)) (wr := []) ⟨hx, hb, hml, hown, hts⟩ (c_B_buildConnective_7 l D ad cL cI nv nb nt nf na lv nm vw vp tw ab am w hok ka kb ha hb2 hnf) ⟨callB_of 3 hts (gW wd_378) rfl rfl rfl (hts _ wd_1) (hts _ wd_375) hd_B_buildConnective ⟨Nat.le_of_ble_eq_true rfl, Nat.le_of_ble_eq_true rfl⟩, hts _ wd_377, hts _ wd_p21⟩ XT_ok (fun _ _ _ => trivial) hK hP hD hS hA 0 0 rfl rfl rfl [0, 1] [0, 1, 2, 3, 4, 5, 6, 7, 8] [] [0, 1, 2, 3, 4, 5, 6, 7, 8] rfl rfl rfl rfl rfl (by decide) rfl rfl rfl hl.1 rfl (Nat.le_of_ble_eq_true rfl) d_B_formula_54 ⟨Nat.zero_le _, Nat.zero_le _⟩ (st1 := []) rfl (fun H locs hP hD hS => ?_)
        refine lv_aload_n hx hb d_B_formula_57 rfl (lv_at hl 0 rfl) ?_
        refine lv_dup hx hb d_B_formula_58 rfl ?_
        refine va_get (D := D) (ci := 0) (v := .int (nI nf)) (C := R_B) (T := F_B) (N := 14) hx hb hts in_B hown hK hP 0 rfl rfl 8 (by decide) (hts _ wd_55) (fun _ h9 => h9) rfl d_B_formula_59 ?_
        refine lv_iconst (v := nI 1) hx hb d_B_formula_62 (by decide) ?_
        refine n_add hx hb d_B_formula_63 ?_
        refine va_put (D := D) (ci := 0) (v := .int (nI (nf + 1))) (ty := .int) (C := R_B) (T := F_B) (N := 14) hx hb hts in_B t_B tok_B nm_B hown hK hP hD hS 0 rfl rfl 8 (by decide) (hts _ wd_55) (fun _ h9 => h9) rfl (by decide +kernel) rfl rfl (Nat.le_of_ble_eq_true rfl) d_B_formula_64 (fun H locs hP hD hS => ?_)
        have hP : va_P D cls (bsW ad cL cI nv nb nt (nf + 1) na lv nm vw vp tw ab am (oAnd nf ka kb 1 w)) H := hP
        have hD : va_D A (bsW ad cL cI nv nb nt (nf + 1) na lv nm vw vp tw ab am (oAnd nf ka kb 1 w)) := hD
        refine lv_aload_n hx hb d_B_formula_67 rfl (lv_at hl 0 rfl) ?_
        refine va_get (D := D) (ci := 0) (v := .int (nI (nf + 1))) (C := R_B) (T := F_B) (N := 14) hx hb hts in_B hown hK hP 0 rfl rfl 8 (by decide) (hts _ wd_55) (fun _ h9 => h9) rfl d_B_formula_68 ?_
        refine lv_iconst (v := nI 1) hx hb d_B_formula_71 (by decide) ?_
        refine n_sub hx hb (by omega) d_B_formula_72 ?_
        exact fn_iret hx hb hr hlocks hAe hK hP hD hS (by rw [Nat.add_sub_cancel]) d_B_formula_73
      · exact absurd c_37 (by omega)
    · exact absurd c_24 (by omega)
  · exact absurd hf (by rw [c_7]; decide)
set_option maxHeartbeats 4000000 in
set_option maxRecDepth 100000 in
theorem c_B_formula_8 (l : Launch) (D : va_G) (ad : Nat → Nat) (cL cI : ClassId) (nv nb nt nf na lv nm : Nat) (vw vp tw ab am : Nat → Nat) (w : Nat → Int64) (hok : Bok nv nb nt nf na lv nm vw vp tw ab am) (ka kb : Nat) (ha : ka < nf) (hb2 : kb < nf) (hf : pF nt nf tw (nI 8) (nI ka) (nI kb) = true) (hnf : nf < 50) : Fn l y_B_formula (wk y_B_formula b_B_formula 4 (some .int)) rm_B_formula D cls [(cL, .long), (cI, .int)] [.ref (ad 0), .int (nI 8), .int (nI ka), .int (nI kb)] (bsW ad cL cI nv nb nt nf na lv nm vw vp tw ab am w) XT (some (.int (nI nf))) (bsW ad cL cI nv nb nt (nf + 1) na lv nm vw vp tw ab am (oOr nf ka kb 1 w)) := by
  refine Fn.of (by decide) rfl (Nat.le_of_ble_eq_true rfl) ?_
  intro p e s m below meth c A ls hx hb hml hr hts0 hown hlocks hnm hP hK hD hS hA hAe hX hl
  have hts : ∀ w ∈ lw_ok, w.before _ s = true := fun w h => hts0 w (List.mem_cons_of_mem _ h)
  have hown : s.vm.findClass R_B = some m.cls := hown
  have hP : va_P D cls (bsW ad cL cI nv nb nt nf na lv nm vw vp tw ab am w) s.heap := hP
  have hl : lv_has ls 4 [(0, .ref (ad 0)), (1, .int (nI 8)), (2, .int (nI ka)), (3, .int (nI kb))] := hl
  obtain ⟨o_nv, o_nb, o_nt, o_nf, o_na, o_lv, o_nm, o_vw, o_tw, o_am, o_ab⟩ := id hok
  refine lv_aload_n hx hb d_B_formula_0 rfl (lv_at hl 0 rfl) ?_
  refine lv_iload_n hx hb d_B_formula_1 rfl (lv_at hl 1 rfl) ?_
  refine lv_iload_n hx hb d_B_formula_2 rfl (lv_at hl 2 rfl) ?_
  refine lv_iload_n hx hb d_B_formula_3 rfl (lv_at hl 3 rfl) ?_
  refine fn_V (ws' := (bsW ad cL cI nv nb nt nf na lv nm vw vp tw ab am w)) (w1 := (bsW ad cL cI nv nb nt nf na lv nm vw vp tw ab am w)) (wc := (bsW ad cL cI nv nb nt nf na lv nm vw vp tw ab am w)) (wr := []) ⟨hx, hb, hml, hown, hts⟩ (c_B_canBuildFormula l D ad cL cI nv nb nt nf na lv nm vw vp tw ab am w hok (nI 8) (nI ka) (nI kb)) ⟨callB_of 3 hts (gW wd_353) rfl rfl rfl (hts _ wd_1) (hts _ wd_350) hd_B_canBuildFormula ⟨Nat.le_of_ble_eq_true rfl, Nat.le_of_ble_eq_true rfl⟩, hts _ wd_352, hts _ wd_p19⟩ XT_ok (fun _ _ _ => trivial) hK hP hD hS hA 0 0 rfl rfl rfl [0, 1] [0, 1, 2, 3, 4, 5, 6, 7, 8] [] [0, 1, 2, 3, 4, 5, 6, 7, 8] rfl rfl rfl rfl rfl (by decide) rfl rfl rfl hl.1 rfl (Nat.le_of_ble_eq_true rfl) d_B_formula_4 ⟨Nat.zero_le _, Nat.zero_le _⟩ (st1 := [.int (bI (pF nt nf tw (nI 8) (nI ka) (nI kb)))]) rfl (fun H locs hP hD hS => ?_)
  refine b_if_ne (tgt := 18) hx hb d_B_formula_7 (by decide) (fun c_7 => ?_) (fun c_7 => ?_)
  · refine lv_aload_n hx hb d_B_formula_18 rfl (lv_at hl 0 rfl) ?_
    refine va_get (D := D) (ci := 0) (v := .int (nI nf)) (C := R_B) (T := F_B) (N := 14) hx hb hts in_B hown hK hP 0 rfl rfl 8 (by decide) (hts _ wd_55) (fun _ h9 => h9) rfl d_B_formula_19 ?_
    refine lv_bipush (v := nI 50) hx hb d_B_formula_22 (by decide) ?_
    refine z_icmp_lt (tgt := 35) hx hb (nI_toInt (by omega)) (nI_toInt (by omega)) d_B_formula_24 (by decide) (fun c_24 => ?_) (fun c_24 => ?_)
    · refine lv_iload_n hx hb d_B_formula_35 rfl (lv_at hl 1 rfl) ?_
      refine lv_iconst (v := nI 5) hx hb d_B_formula_36 (by decide) ?_
      refine z_icmp_gt (tgt := 50) hx hb (nI_toInt (by omega)) (nI_toInt (by omega)) d_B_formula_37 (by decide) (fun c_37 => ?_) (fun c_37 => ?_)
      · refine lv_aload_n hx hb d_B_formula_50 rfl (lv_at hl 0 rfl) ?_
        refine lv_iload_n hx hb d_B_formula_51 rfl (lv_at hl 1 rfl) ?_
        refine lv_iload_n hx hb d_B_formula_52 rfl (lv_at hl 2 rfl) ?_
        refine lv_iload_n hx hb d_B_formula_53 rfl (lv_at hl 3 rfl) ?_
        refine fn_V (ws' := (bsW ad cL cI nv nb nt nf na lv nm vw vp tw ab am (oOr nf ka kb 1 w))) (w1 := (bsW ad cL cI nv nb nt nf na lv nm vw vp tw ab am (oOr nf ka kb 1 w))) (wc := (bsW ad cL cI nv nb nt nf na lv nm vw vp tw ab am w)) (wr := []) ⟨hx, hb, hml, hown, hts⟩ (c_B_buildConnective_8 l D ad cL cI nv nb nt nf na lv nm vw vp tw ab am w hok ka kb ha hb2 hnf) ⟨callB_of 3 hts (gW wd_378) rfl rfl rfl (hts _ wd_1) (hts _ wd_375) hd_B_buildConnective ⟨Nat.le_of_ble_eq_true rfl, Nat.le_of_ble_eq_true rfl⟩, hts _ wd_377, hts _ wd_p21⟩ XT_ok (fun _ _ _ => trivial) hK hP hD hS hA 0 0 rfl rfl rfl [0, 1] [0, 1, 2, 3, 4, 5, 6, 7, 8] [] [0, 1, 2, 3, 4, 5, 6, 7, 8] rfl rfl rfl rfl rfl (by decide) rfl rfl rfl hl.1 rfl (Nat.le_of_ble_eq_true rfl) d_B_formula_54 ⟨Nat.zero_le _, Nat.zero_le _⟩ (st1 := []) rfl (fun H locs hP hD hS => ?_)
        refine lv_aload_n hx hb d_B_formula_57 rfl (lv_at hl 0 rfl) ?_
        refine lv_dup hx hb d_B_formula_58 rfl ?_
        refine va_get (D := D) (ci := 0) (v := .int (nI nf)) (C := R_B) (T := F_B) (N := 14) hx hb hts in_B hown hK hP 0 rfl rfl 8 (by decide) (hts _ wd_55) (fun _ h9 => h9) rfl d_B_formula_59 ?_
        refine lv_iconst (v := nI 1) hx hb d_B_formula_62 (by decide) ?_
        refine n_add hx hb d_B_formula_63 ?_
        refine va_put (D := D) (ci := 0) (v := .int (nI (nf + 1))) (ty := .int) (C := R_B) (T := F_B) (N := 14) hx hb hts in_B t_B tok_B nm_B hown hK hP hD hS 0 rfl rfl 8 (by decide) (hts _ wd_55) (fun _ h9 => h9) rfl (by decide +kernel) rfl rfl (Nat.le_of_ble_eq_true rfl) d_B_formula_64 (fun H locs hP hD hS => ?_)
        have hP : va_P D cls (bsW ad cL cI nv nb nt (nf + 1) na lv nm vw vp tw ab am (oOr nf ka kb 1 w)) H := hP
        have hD : va_D A (bsW ad cL cI nv nb nt (nf + 1) na lv nm vw vp tw ab am (oOr nf ka kb 1 w)) := hD
        refine lv_aload_n hx hb d_B_formula_67 rfl (lv_at hl 0 rfl) ?_
        refine va_get (D := D) (ci := 0) (v := .int (nI (nf + 1))) (C := R_B) (T := F_B) (N := 14) hx hb hts in_B hown hK hP 0 rfl rfl 8 (by decide) (hts _ wd_55) (fun _ h9 => h9) rfl d_B_formula_68 ?_
        refine lv_iconst (v := nI 1) hx hb d_B_formula_71 (by decide) ?_
        refine n_sub hx hb (by omega) d_B_formula_72 ?_
        exact fn_iret hx hb hr hlocks hAe hK hP hD hS (by rw [Nat.add_sub_cancel]) d_B_formula_73
      · exact absurd c_37 (by omega)
    · exact absurd c_24 (by omega)
  · exact absurd hf (by rw [c_7]; decide)
set_option maxHeartbeats 4000000 in
set_option maxRecDepth 100000 in
theorem c_B_formula_9 (l : Launch) (D : va_G) (ad : Nat → Nat) (cL cI : ClassId) (nv nb nt nf na lv nm : Nat) (vw vp tw ab am : Nat → Nat) (w : Nat → Int64) (hok : Bok nv nb nt nf na lv nm vw vp tw ab am) (ka kb : Nat) (ha : ka < nf) (hb2 : kb < nf) (hf : pF nt nf tw (nI 9) (nI ka) (nI kb) = true) (hnf : nf < 50) : Fn l y_B_formula (wk y_B_formula b_B_formula 4 (some .int)) rm_B_formula D cls [(cL, .long), (cI, .int)] [.ref (ad 0), .int (nI 9), .int (nI ka), .int (nI kb)] (bsW ad cL cI nv nb nt nf na lv nm vw vp tw ab am w) XT (some (.int (nI nf))) (bsW ad cL cI nv nb nt (nf + 1) na lv nm vw vp tw ab am (oXor nf ka kb 1 w)) := by
  refine Fn.of (by decide) rfl (Nat.le_of_ble_eq_true rfl) ?_
  intro p e s m below meth c A ls hx hb hml hr hts0 hown hlocks hnm hP hK hD hS hA hAe hX hl
  have hts : ∀ w ∈ lw_ok, w.before _ s = true := fun w h => hts0 w (List.mem_cons_of_mem _ h)
  have hown : s.vm.findClass R_B = some m.cls := hown
  have hP : va_P D cls (bsW ad cL cI nv nb nt nf na lv nm vw vp tw ab am w) s.heap := hP
  have hl : lv_has ls 4 [(0, .ref (ad 0)), (1, .int (nI 9)), (2, .int (nI ka)), (3, .int (nI kb))] := hl
  obtain ⟨o_nv, o_nb, o_nt, o_nf, o_na, o_lv, o_nm, o_vw, o_tw, o_am, o_ab⟩ := id hok
  refine lv_aload_n hx hb d_B_formula_0 rfl (lv_at hl 0 rfl) ?_
  refine lv_iload_n hx hb d_B_formula_1 rfl (lv_at hl 1 rfl) ?_
  refine lv_iload_n hx hb d_B_formula_2 rfl (lv_at hl 2 rfl) ?_
  refine lv_iload_n hx hb d_B_formula_3 rfl (lv_at hl 3 rfl) ?_
  refine fn_V (ws' := (bsW ad cL cI nv nb nt nf na lv nm vw vp tw ab am w)) (w1 := (bsW ad cL cI nv nb nt nf na lv nm vw vp tw ab am w)) (wc := (bsW ad cL cI nv nb nt nf na lv nm vw vp tw ab am w)) (wr := []) ⟨hx, hb, hml, hown, hts⟩ (c_B_canBuildFormula l D ad cL cI nv nb nt nf na lv nm vw vp tw ab am w hok (nI 9) (nI ka) (nI kb)) ⟨callB_of 3 hts (gW wd_353) rfl rfl rfl (hts _ wd_1) (hts _ wd_350) hd_B_canBuildFormula ⟨Nat.le_of_ble_eq_true rfl, Nat.le_of_ble_eq_true rfl⟩, hts _ wd_352, hts _ wd_p19⟩ XT_ok (fun _ _ _ => trivial) hK hP hD hS hA 0 0 rfl rfl rfl [0, 1] [0, 1, 2, 3, 4, 5, 6, 7, 8] [] [0, 1, 2, 3, 4, 5, 6, 7, 8] rfl rfl rfl rfl rfl (by decide) rfl rfl rfl hl.1 rfl (Nat.le_of_ble_eq_true rfl) d_B_formula_4 ⟨Nat.zero_le _, Nat.zero_le _⟩ (st1 := [.int (bI (pF nt nf tw (nI 9) (nI ka) (nI kb)))]) rfl (fun H locs hP hD hS => ?_)
  refine b_if_ne (tgt := 18) hx hb d_B_formula_7 (by decide) (fun c_7 => ?_) (fun c_7 => ?_)
  · refine lv_aload_n hx hb d_B_formula_18 rfl (lv_at hl 0 rfl) ?_
    refine va_get (D := D) (ci := 0) (v := .int (nI nf)) (C := R_B) (T := F_B) (N := 14) hx hb hts in_B hown hK hP 0 rfl rfl 8 (by decide) (hts _ wd_55) (fun _ h9 => h9) rfl d_B_formula_19 ?_
    refine lv_bipush (v := nI 50) hx hb d_B_formula_22 (by decide) ?_
    refine z_icmp_lt (tgt := 35) hx hb (nI_toInt (by omega)) (nI_toInt (by omega)) d_B_formula_24 (by decide) (fun c_24 => ?_) (fun c_24 => ?_)
    · refine lv_iload_n hx hb d_B_formula_35 rfl (lv_at hl 1 rfl) ?_
      refine lv_iconst (v := nI 5) hx hb d_B_formula_36 (by decide) ?_
      refine z_icmp_gt (tgt := 50) hx hb (nI_toInt (by omega)) (nI_toInt (by omega)) d_B_formula_37 (by decide) (fun c_37 => ?_) (fun c_37 => ?_)
      · refine lv_aload_n hx hb d_B_formula_50 rfl (lv_at hl 0 rfl) ?_
        refine lv_iload_n hx hb d_B_formula_51 rfl (lv_at hl 1 rfl) ?_
        refine lv_iload_n hx hb d_B_formula_52 rfl (lv_at hl 2 rfl) ?_
        refine lv_iload_n hx hb d_B_formula_53 rfl (lv_at hl 3 rfl) ?_
        refine fn_V (ws' := (bsW ad cL cI nv nb nt nf na lv nm vw vp tw ab am (oXor nf ka kb 1 w))) (w1 := (bsW ad cL cI nv nb nt nf na lv nm vw vp tw ab am (oXor nf ka kb 1 w))) (wc := (bsW ad cL cI nv nb nt nf na lv nm vw vp tw ab am w)) (wr := []) ⟨hx, hb, hml, hown, hts⟩ (c_B_buildConnective_9 l D ad cL cI nv nb nt nf na lv nm vw vp tw ab am w hok ka kb ha hb2 hnf) ⟨callB_of 3 hts (gW wd_378) rfl rfl rfl (hts _ wd_1) (hts _ wd_375) hd_B_buildConnective ⟨Nat.le_of_ble_eq_true rfl, Nat.le_of_ble_eq_true rfl⟩, hts _ wd_377, hts _ wd_p21⟩ XT_ok (fun _ _ _ => trivial) hK hP hD hS hA 0 0 rfl rfl rfl [0, 1] [0, 1, 2, 3, 4, 5, 6, 7, 8] [] [0, 1, 2, 3, 4, 5, 6, 7, 8] rfl rfl rfl rfl rfl (by decide) rfl rfl rfl hl.1 rfl (Nat.le_of_ble_eq_true rfl) d_B_formula_54 ⟨Nat.zero_le _, Nat.zero_le _⟩ (st1 := []) rfl (fun H locs hP hD hS => ?_)
        refine lv_aload_n hx hb d_B_formula_57 rfl (lv_at hl 0 rfl) ?_
        refine lv_dup hx hb d_B_formula_58 rfl ?_
        refine va_get (D := D) (ci := 0) (v := .int (nI nf)) (C := R_B) (T := F_B) (N := 14) hx hb hts in_B hown hK hP 0 rfl rfl 8 (by decide) (hts _ wd_55) (fun _ h9 => h9) rfl d_B_formula_59 ?_
        refine lv_iconst (v := nI 1) hx hb d_B_formula_62 (by decide) ?_
        refine n_add hx hb d_B_formula_63 ?_
        refine va_put (D := D) (ci := 0) (v := .int (nI (nf + 1))) (ty := .int) (C := R_B) (T := F_B) (N := 14) hx hb hts in_B t_B tok_B nm_B hown hK hP hD hS 0 rfl rfl 8 (by decide) (hts _ wd_55) (fun _ h9 => h9) rfl (by decide +kernel) rfl rfl (Nat.le_of_ble_eq_true rfl) d_B_formula_64 (fun H locs hP hD hS => ?_)
        have hP : va_P D cls (bsW ad cL cI nv nb nt (nf + 1) na lv nm vw vp tw ab am (oXor nf ka kb 1 w)) H := hP
        have hD : va_D A (bsW ad cL cI nv nb nt (nf + 1) na lv nm vw vp tw ab am (oXor nf ka kb 1 w)) := hD
        refine lv_aload_n hx hb d_B_formula_67 rfl (lv_at hl 0 rfl) ?_
        refine va_get (D := D) (ci := 0) (v := .int (nI (nf + 1))) (C := R_B) (T := F_B) (N := 14) hx hb hts in_B hown hK hP 0 rfl rfl 8 (by decide) (hts _ wd_55) (fun _ h9 => h9) rfl d_B_formula_68 ?_
        refine lv_iconst (v := nI 1) hx hb d_B_formula_71 (by decide) ?_
        refine n_sub hx hb (by omega) d_B_formula_72 ?_
        exact fn_iret hx hb hr hlocks hAe hK hP hD hS (by rw [Nat.add_sub_cancel]) d_B_formula_73
      · exact absurd c_37 (by omega)
    · exact absurd c_24 (by omega)
  · exact absurd hf (by rw [c_7]; decide)
set_option maxHeartbeats 4000000 in
set_option maxRecDepth 100000 in
theorem c_B_formula_10 (l : Launch) (D : va_G) (ad : Nat → Nat) (cL cI : ClassId) (nv nb nt nf na lv nm : Nat) (vw vp tw ab am : Nat → Nat) (w : Nat → Int64) (hok : Bok nv nb nt nf na lv nm vw vp tw ab am) (ka kb : Nat) (ha : ka < nf) (hb2 : kb < nf) (hf : pF nt nf tw (nI 10) (nI ka) (nI kb) = true) (hnf : nf < 50) : Fn l y_B_formula (wk y_B_formula b_B_formula 4 (some .int)) rm_B_formula D cls [(cL, .long), (cI, .int)] [.ref (ad 0), .int (nI 10), .int (nI ka), .int (nI kb)] (bsW ad cL cI nv nb nt nf na lv nm vw vp tw ab am w) XT (some (.int (nI nf))) (bsW ad cL cI nv nb nt (nf + 1) na lv nm vw vp tw ab am (oOr nf nf kb 1 (oTurn nf ka 1 w))) := by
  refine Fn.of (by decide) rfl (Nat.le_of_ble_eq_true rfl) ?_
  intro p e s m below meth c A ls hx hb hml hr hts0 hown hlocks hnm hP hK hD hS hA hAe hX hl
  have hts : ∀ w ∈ lw_ok, w.before _ s = true := fun w h => hts0 w (List.mem_cons_of_mem _ h)
  have hown : s.vm.findClass R_B = some m.cls := hown
  have hP : va_P D cls (bsW ad cL cI nv nb nt nf na lv nm vw vp tw ab am w) s.heap := hP
  have hl : lv_has ls 4 [(0, .ref (ad 0)), (1, .int (nI 10)), (2, .int (nI ka)), (3, .int (nI kb))] := hl
  obtain ⟨o_nv, o_nb, o_nt, o_nf, o_na, o_lv, o_nm, o_vw, o_tw, o_am, o_ab⟩ := id hok
  refine lv_aload_n hx hb d_B_formula_0 rfl (lv_at hl 0 rfl) ?_
  refine lv_iload_n hx hb d_B_formula_1 rfl (lv_at hl 1 rfl) ?_
  refine lv_iload_n hx hb d_B_formula_2 rfl (lv_at hl 2 rfl) ?_
  refine lv_iload_n hx hb d_B_formula_3 rfl (lv_at hl 3 rfl) ?_
  refine fn_V (ws' := (bsW ad cL cI nv nb nt nf na lv nm vw vp tw ab am w)) (w1 := (bsW ad cL cI nv nb nt nf na lv nm vw vp tw ab am w)) (wc := (bsW ad cL cI nv nb nt nf na lv nm vw vp tw ab am w)) (wr := []) ⟨hx, hb, hml, hown, hts⟩ (c_B_canBuildFormula l D ad cL cI nv nb nt nf na lv nm vw vp tw ab am w hok (nI 10) (nI ka) (nI kb)) ⟨callB_of 3 hts (gW wd_353) rfl rfl rfl (hts _ wd_1) (hts _ wd_350) hd_B_canBuildFormula ⟨Nat.le_of_ble_eq_true rfl, Nat.le_of_ble_eq_true rfl⟩, hts _ wd_352, hts _ wd_p19⟩ XT_ok (fun _ _ _ => trivial) hK hP hD hS hA 0 0 rfl rfl rfl [0, 1] [0, 1, 2, 3, 4, 5, 6, 7, 8] [] [0, 1, 2, 3, 4, 5, 6, 7, 8] rfl rfl rfl rfl rfl (by decide) rfl rfl rfl hl.1 rfl (Nat.le_of_ble_eq_true rfl) d_B_formula_4 ⟨Nat.zero_le _, Nat.zero_le _⟩ (st1 := [.int (bI (pF nt nf tw (nI 10) (nI ka) (nI kb)))]) rfl (fun H locs hP hD hS => ?_)
  refine b_if_ne (tgt := 18) hx hb d_B_formula_7 (by decide) (fun c_7 => ?_) (fun c_7 => ?_)
  · refine lv_aload_n hx hb d_B_formula_18 rfl (lv_at hl 0 rfl) ?_
    refine va_get (D := D) (ci := 0) (v := .int (nI nf)) (C := R_B) (T := F_B) (N := 14) hx hb hts in_B hown hK hP 0 rfl rfl 8 (by decide) (hts _ wd_55) (fun _ h9 => h9) rfl d_B_formula_19 ?_
    refine lv_bipush (v := nI 50) hx hb d_B_formula_22 (by decide) ?_
    refine z_icmp_lt (tgt := 35) hx hb (nI_toInt (by omega)) (nI_toInt (by omega)) d_B_formula_24 (by decide) (fun c_24 => ?_) (fun c_24 => ?_)
    · refine lv_iload_n hx hb d_B_formula_35 rfl (lv_at hl 1 rfl) ?_
      refine lv_iconst (v := nI 5) hx hb d_B_formula_36 (by decide) ?_
      refine z_icmp_gt (tgt := 50) hx hb (nI_toInt (by omega)) (nI_toInt (by omega)) d_B_formula_37 (by decide) (fun c_37 => ?_) (fun c_37 => ?_)
      · refine lv_aload_n hx hb d_B_formula_50 rfl (lv_at hl 0 rfl) ?_
        refine lv_iload_n hx hb d_B_formula_51 rfl (lv_at hl 1 rfl) ?_
        refine lv_iload_n hx hb d_B_formula_52 rfl (lv_at hl 2 rfl) ?_
        refine lv_iload_n hx hb d_B_formula_53 rfl (lv_at hl 3 rfl) ?_
        refine fn_V (ws' := (bsW ad cL cI nv nb nt nf na lv nm vw vp tw ab am (oOr nf nf kb 1 (oTurn nf ka 1 w)))) (w1 := (bsW ad cL cI nv nb nt nf na lv nm vw vp tw ab am (oOr nf nf kb 1 (oTurn nf ka 1 w)))) (wc := (bsW ad cL cI nv nb nt nf na lv nm vw vp tw ab am w)) (wr := []) ⟨hx, hb, hml, hown, hts⟩ (c_B_buildConnective_10 l D ad cL cI nv nb nt nf na lv nm vw vp tw ab am w hok ka kb ha hb2 hnf) ⟨callB_of 3 hts (gW wd_378) rfl rfl rfl (hts _ wd_1) (hts _ wd_375) hd_B_buildConnective ⟨Nat.le_of_ble_eq_true rfl, Nat.le_of_ble_eq_true rfl⟩, hts _ wd_377, hts _ wd_p21⟩ XT_ok (fun _ _ _ => trivial) hK hP hD hS hA 0 0 rfl rfl rfl [0, 1] [0, 1, 2, 3, 4, 5, 6, 7, 8] [] [0, 1, 2, 3, 4, 5, 6, 7, 8] rfl rfl rfl rfl rfl (by decide) rfl rfl rfl hl.1 rfl (Nat.le_of_ble_eq_true rfl) d_B_formula_54 ⟨Nat.zero_le _, Nat.zero_le _⟩ (st1 := []) rfl (fun H locs hP hD hS => ?_)
        refine lv_aload_n hx hb d_B_formula_57 rfl (lv_at hl 0 rfl) ?_
        refine lv_dup hx hb d_B_formula_58 rfl ?_
        refine va_get (D := D) (ci := 0) (v := .int (nI nf)) (C := R_B) (T := F_B) (N := 14) hx hb hts in_B hown hK hP 0 rfl rfl 8 (by decide) (hts _ wd_55) (fun _ h9 => h9) rfl d_B_formula_59 ?_
        refine lv_iconst (v := nI 1) hx hb d_B_formula_62 (by decide) ?_
        refine n_add hx hb d_B_formula_63 ?_
        refine va_put (D := D) (ci := 0) (v := .int (nI (nf + 1))) (ty := .int) (C := R_B) (T := F_B) (N := 14) hx hb hts in_B t_B tok_B nm_B hown hK hP hD hS 0 rfl rfl 8 (by decide) (hts _ wd_55) (fun _ h9 => h9) rfl (by decide +kernel) rfl rfl (Nat.le_of_ble_eq_true rfl) d_B_formula_64 (fun H locs hP hD hS => ?_)
        have hP : va_P D cls (bsW ad cL cI nv nb nt (nf + 1) na lv nm vw vp tw ab am (oOr nf nf kb 1 (oTurn nf ka 1 w))) H := hP
        have hD : va_D A (bsW ad cL cI nv nb nt (nf + 1) na lv nm vw vp tw ab am (oOr nf nf kb 1 (oTurn nf ka 1 w))) := hD
        refine lv_aload_n hx hb d_B_formula_67 rfl (lv_at hl 0 rfl) ?_
        refine va_get (D := D) (ci := 0) (v := .int (nI (nf + 1))) (C := R_B) (T := F_B) (N := 14) hx hb hts in_B hown hK hP 0 rfl rfl 8 (by decide) (hts _ wd_55) (fun _ h9 => h9) rfl d_B_formula_68 ?_
        refine lv_iconst (v := nI 1) hx hb d_B_formula_71 (by decide) ?_
        refine n_sub hx hb (by omega) d_B_formula_72 ?_
        exact fn_iret hx hb hr hlocks hAe hK hP hD hS (by rw [Nat.add_sub_cancel]) d_B_formula_73
      · exact absurd c_37 (by omega)
    · exact absurd c_24 (by omega)
  · exact absurd hf (by rw [c_7]; decide)
set_option maxHeartbeats 4000000 in
set_option maxRecDepth 100000 in
theorem c_B_assertion (l : Launch) (D : va_G) (ad : Nat → Nat) (cL cI : ClassId) (nv nb nt nf na lv nm : Nat) (vw vp tw ab am : Nat → Nat) (w : Nat → Int64) (hok : Bok nv nb nt nf na lv nm vw vp tw ab am) (f : Nat) (hf : f < nf) (hn : na < 30) : Fn l y_B_assertion (wk y_B_assertion b_B_assertion 2 (some .int)) rm_B_assertion D cls [(cL, .long), (cI, .int)] [.ref (ad 0), .int (nI f)] (bsW ad cL cI nv nb nt nf na lv nm vw vp tw ab am w) XT (some (.int (nI (na + 1)))) (bsW ad cL cI nv nb nt nf (na + 1) lv nm vw vp tw ab am (oAnd (250 + lv) (250 + lv) f 1 w)) := by
  refine Fn.of (by decide) rfl (Nat.le_of_ble_eq_true rfl) ?_
  intro p e s m below meth c A ls hx hb hml hr hts0 hown hlocks hnm hP hK hD hS hA hAe hX hl
  have hts : ∀ w ∈ lw_ok, w.before _ s = true := fun w h => hts0 w (List.mem_cons_of_mem _ h)
  have hown : s.vm.findClass R_B = some m.cls := hown
  have hP : va_P D cls (bsW ad cL cI nv nb nt nf na lv nm vw vp tw ab am w) s.heap := hP
  have hl : lv_has ls 2 [(0, .ref (ad 0)), (1, .int (nI f))] := hl
  obtain ⟨o_nv, o_nb, o_nt, o_nf, o_na, o_lv, o_nm, o_vw, o_tw, o_am, o_ab⟩ := id hok
  refine lv_aload_n hx hb d_B_assertion_0 rfl (lv_at hl 0 rfl) ?_
  refine lv_iload_n hx hb d_B_assertion_1 rfl (lv_at hl 1 rfl) ?_
  refine fn_V (ws' := (bsW ad cL cI nv nb nt nf na lv nm vw vp tw ab am w)) (w1 := (bsW ad cL cI nv nb nt nf na lv nm vw vp tw ab am w)) (wc := (bsW ad cL cI nv nb nt nf na lv nm vw vp tw ab am w)) (wr := []) ⟨hx, hb, hml, hown, hts⟩ (c_B_hasFormula l D ad cL cI nv nb nt nf na lv nm vw vp tw ab am w hok (nI f)) ⟨callB_of 1 hts (gW wd_256) rfl rfl rfl (hts _ wd_1) (hts _ wd_253) hd_B_hasFormula ⟨Nat.le_of_ble_eq_true rfl, Nat.le_of_ble_eq_true rfl⟩, hts _ wd_255, hts _ wd_p11⟩ XT_ok (fun _ _ _ => trivial) hK hP hD hS hA 0 0 rfl rfl rfl [0, 1] [0, 1, 2, 3, 4, 5, 6, 7, 8] [] [0, 1, 2, 3, 4, 5, 6, 7, 8] rfl rfl rfl rfl rfl (by decide) rfl rfl rfl hl.1 rfl (Nat.le_of_ble_eq_true rfl) d_B_assertion_2 ⟨Nat.zero_le _, Nat.zero_le _⟩ (st1 := [.int (bI (hasB (nI f) nf))]) rfl (fun H locs hP hD hS => ?_)
  refine b_if_ne (tgt := 16) hx hb d_B_assertion_5 (by decide) (fun c_5 => ?_) (fun c_5 => ?_)
  · refine lv_aload_n hx hb d_B_assertion_16 rfl (lv_at hl 0 rfl) ?_
    refine va_get (D := D) (ci := 0) (v := .int (nI na)) (C := R_B) (T := F_B) (N := 14) hx hb hts in_B hown hK hP 0 rfl rfl 10 (by decide) (hts _ wd_57) (fun _ h9 => h9) rfl d_B_assertion_17 ?_
    refine lv_bipush (v := nI 30) hx hb d_B_assertion_20 (by decide) ?_
    refine z_icmp_lt (tgt := 33) hx hb (nI_toInt (by omega)) (nI_toInt (by omega)) d_B_assertion_22 (by decide) (fun c_22 => ?_) (fun c_22 => ?_)
    · refine lv_aload_n hx hb d_B_assertion_33 rfl (lv_at hl 0 rfl) ?_
      refine va_get (D := D) (ci := 0) (v := .ref (ad 2)) (C := R_B) (T := F_B) (N := 14) hx hb hts in_B hown hK hP 0 rfl rfl 0 (by decide) (hts _ wd_47) (fun _ h9 => h9) rfl d_B_assertion_34 ?_
      refine lv_aload_n hx hb d_B_assertion_37 rfl (lv_at hl 0 rfl) ?_
      refine fn_V (ws' := (bsW ad cL cI nv nb nt nf na lv nm vw vp tw ab am w)) (w1 := (bsW ad cL cI nv nb nt nf na lv nm vw vp tw ab am w)) (wc := (bsW ad cL cI nv nb nt nf na lv nm vw vp tw ab am w)) (wr := []) ⟨hx, hb, hml, hown, hts⟩ (c_B_modelRow l D ad cL cI nv nb nt nf na lv nm vw vp tw ab am w hok ) ⟨callB_of 0 hts (gW wd_102) rfl rfl rfl (hts _ wd_1) (hts _ wd_99) hd_B_modelRow ⟨Nat.le_of_ble_eq_true rfl, Nat.le_of_ble_eq_true rfl⟩, hts _ wd_101, hts _ wd_p1⟩ XT_ok (fun _ _ _ => trivial) hK hP hD hS hA 0 0 rfl rfl rfl [0, 1] [0, 1, 2, 3, 4, 5, 6, 7, 8] [] [0, 1, 2, 3, 4, 5, 6, 7, 8] rfl rfl rfl rfl rfl (by decide) rfl rfl rfl hl.1 rfl (Nat.le_of_ble_eq_true rfl) d_B_assertion_38 ⟨Nat.zero_le _, Nat.zero_le _⟩ (st1 := [.int (nI (250 + lv)), .ref (ad 2)]) rfl (fun H locs hP hD hS => ?_)
      refine lv_aload_n hx hb d_B_assertion_41 rfl (lv_at hl 0 rfl) ?_
      refine fn_V (ws' := (bsW ad cL cI nv nb nt nf na lv nm vw vp tw ab am w)) (w1 := (bsW ad cL cI nv nb nt nf na lv nm vw vp tw ab am w)) (wc := (bsW ad cL cI nv nb nt nf na lv nm vw vp tw ab am w)) (wr := []) ⟨hx, hb, hml, hown, hts⟩ (c_B_modelRow l D ad cL cI nv nb nt nf na lv nm vw vp tw ab am w hok ) ⟨callB_of 0 hts (gW wd_102) rfl rfl rfl (hts _ wd_1) (hts _ wd_99) hd_B_modelRow ⟨Nat.le_of_ble_eq_true rfl, Nat.le_of_ble_eq_true rfl⟩, hts _ wd_101, hts _ wd_p1⟩ XT_ok (fun _ _ _ => trivial) hK hP hD hS hA 0 0 rfl rfl rfl [0, 1] [0, 1, 2, 3, 4, 5, 6, 7, 8] [] [0, 1, 2, 3, 4, 5, 6, 7, 8] rfl rfl rfl rfl rfl (by decide) rfl rfl rfl hl.1 rfl (Nat.le_of_ble_eq_true rfl) d_B_assertion_42 ⟨Nat.zero_le _, Nat.zero_le _⟩ (st1 := [.int (nI (250 + lv)), .int (nI (250 + lv)), .ref (ad 2)]) rfl (fun H locs hP hD hS => ?_)
      refine lv_iload_n hx hb d_B_assertion_45 rfl (lv_at hl 1 rfl) ?_
      refine lv_iconst (v := nI 1) hx hb d_B_assertion_46 (by decide) ?_
      refine fn_V (ws' := (bsW ad cL cI nv nb nt nf na lv nm vw vp tw ab am (oAnd (250 + lv) (250 + lv) f 1 w))) (w1 := (setsW (ad 2) (ad 3) cL (oAnd (250 + lv) (250 + lv) f 1 w))) (wc := (setsW (ad 2) (ad 3) cL w)) (wr := [(ad 0, .inr (0, [.ref (ad 2), .ref (ad 1), .ref (ad 4), .ref (ad 5), .int (nI nv), .int (nI nb), .ref (ad 6), .int (nI nt), .int (nI nf), .ref (ad 7), .int (nI na), .int (nI lv), .ref (ad 8), .int (nI nm)])), (ad 1, .inr (2, [.ref (ad 2)])), (ad 4, .inl (cI, 6, .inl (fun j => nI (vw j)))), (ad 5, .inl (cI, 6, .inl (fun j => nI (vp j)))), (ad 6, .inl (cI, 50, .inl (fun j => nI (tw j)))), (ad 7, .inl (cI, 6, .inl (fun j => nI (ab j)))), (ad 8, .inl (cI, 8, .inl (fun j => nI (am j))))]) ⟨hx, hb, hml, hown, hts⟩ (c_S_and l D (ad 2) (ad 3) cL w (250 + lv) (250 + lv) f 1 (by omega) (by omega) (by omega) (by omega) (by omega)) ⟨callB_of 4 hts (gW wd_134) rfl rfl rfl (hts _ wd_3) (hts _ wd_131) hd_S_and ⟨Nat.le_of_ble_eq_true rfl, Nat.le_of_ble_eq_true rfl⟩, hts _ wd_132, hts _ wd_133⟩ XT_ok (fun _ _ _ => trivial) hK hP hD hS hA 2 1 rfl rfl rfl [0] [2, 3] [0, 1, 4, 5, 6, 7, 8] [0, 1, 7, 8, 2, 3, 4, 5, 6] rfl rfl rfl rfl rfl (by decide) rfl rfl rfl hl.1 rfl (Nat.le_of_ble_eq_true rfl) d_B_assertion_47 ⟨Nat.zero_le _, Nat.zero_le _⟩ (st1 := []) rfl (fun H locs hP hD hS => ?_)
      refine lv_aload_n hx hb d_B_assertion_50 rfl (lv_at hl 0 rfl) ?_
      refine lv_dup hx hb d_B_assertion_51 rfl ?_
      refine va_get (D := D) (ci := 0) (v := .int (nI na)) (C := R_B) (T := F_B) (N := 14) hx hb hts in_B hown hK hP 0 rfl rfl 10 (by decide) (hts _ wd_57) (fun _ h9 => h9) rfl d_B_assertion_52 ?_
      refine lv_iconst (v := nI 1) hx hb d_B_assertion_55 (by decide) ?_
      refine n_add hx hb d_B_assertion_56 ?_
      refine va_put (D := D) (ci := 0) (v := .int (nI (na + 1))) (ty := .int) (C := R_B) (T := F_B) (N := 14) hx hb hts in_B t_B tok_B nm_B hown hK hP hD hS 0 rfl rfl 10 (by decide) (hts _ wd_57) (fun _ h9 => h9) rfl (by decide +kernel) rfl rfl (Nat.le_of_ble_eq_true rfl) d_B_assertion_57 (fun H locs hP hD hS => ?_)
      have hP : va_P D cls (bsW ad cL cI nv nb nt nf (na + 1) lv nm vw vp tw ab am (oAnd (250 + lv) (250 + lv) f 1 w)) H := hP
      have hD : va_D A (bsW ad cL cI nv nb nt nf (na + 1) lv nm vw vp tw ab am (oAnd (250 + lv) (250 + lv) f 1 w)) := hD
      refine lv_aload_n hx hb d_B_assertion_60 rfl (lv_at hl 0 rfl) ?_
      refine va_get (D := D) (ci := 0) (v := .int (nI (na + 1))) (C := R_B) (T := F_B) (N := 14) hx hb hts in_B hown hK hP 0 rfl rfl 10 (by decide) (hts _ wd_57) (fun _ h9 => h9) rfl d_B_assertion_61 ?_
      exact fn_iret hx hb hr hlocks hAe hK hP hD hS rfl d_B_assertion_64
    · exact absurd c_22 (by omega)
  · exact absurd (hasB_I (n := nf) hf (by omega)) (by rw [c_5]; decide)
set_option maxHeartbeats 4000000 in
set_option maxRecDepth 100000 in
theorem c_B_push (l : Launch) (D : va_G) (ad : Nat → Nat) (cL cI : ClassId) (nv nb nt nf na lv nm : Nat) (vw vp tw ab am : Nat → Nat) (w : Nat → Int64) (hok : Bok nv nb nt nf na lv nm vw vp tw ab am) (hn : lv < 5) : Fn l y_B_push (wk y_B_push b_B_push 1 (some .int)) rm_B_push D cls [(cL, .long), (cI, .int)] [.ref (ad 0)] (bsW ad cL cI nv nb nt nf na lv nm vw vp tw ab am w) XT (some (.int (nI (lv + 1)))) (bsW ad cL cI nv nb nt nf na (lv + 1) nm vw vp tw (updN ab (lv + 1) na) am (oCopy (250 + lv + 1) (250 + lv) 1 w)) := by
  refine Fn.of (by decide) rfl (Nat.le_of_ble_eq_true rfl) ?_
  intro p e s m below meth c A ls hx hb hml hr hts0 hown hlocks hnm hP hK hD hS hA hAe hX hl
  have hts : ∀ w ∈ lw_ok, w.before _ s = true := fun w h => hts0 w (List.mem_cons_of_mem _ h)
  have hown : s.vm.findClass R_B = some m.cls := hown
  have hP : va_P D cls (bsW ad cL cI nv nb nt nf na lv nm vw vp tw ab am w) s.heap := hP
  have hl : lv_has ls 1 [(0, .ref (ad 0))] := hl
  obtain ⟨o_nv, o_nb, o_nt, o_nf, o_na, o_lv, o_nm, o_vw, o_tw, o_am, o_ab⟩ := id hok
  refine lv_aload_n hx hb d_B_push_0 rfl (lv_at hl 0 rfl) ?_
  refine va_get (D := D) (ci := 0) (v := .int (nI lv)) (C := R_B) (T := F_B) (N := 14) hx hb hts in_B hown hK hP 0 rfl rfl 11 (by decide) (hts _ wd_58) (fun _ h9 => h9) rfl d_B_push_1 ?_
  refine lv_iconst (v := nI 5) hx hb d_B_push_4 (by decide) ?_
  refine z_icmp_lt (tgt := 16) hx hb (nI_toInt (by omega)) (nI_toInt (by omega)) d_B_push_5 (by decide) (fun c_5 => ?_) (fun c_5 => ?_)
  · refine lv_aload_n hx hb d_B_push_16 rfl (lv_at hl 0 rfl) ?_
    refine va_get (D := D) (ci := 0) (v := .ref (ad 2)) (C := R_B) (T := F_B) (N := 14) hx hb hts in_B hown hK hP 0 rfl rfl 0 (by decide) (hts _ wd_47) (fun _ h9 => h9) rfl d_B_push_17 ?_
    refine lv_aload_n hx hb d_B_push_20 rfl (lv_at hl 0 rfl) ?_
    refine fn_V (ws' := (bsW ad cL cI nv nb nt nf na lv nm vw vp tw ab am w)) (w1 := (bsW ad cL cI nv nb nt nf na lv nm vw vp tw ab am w)) (wc := (bsW ad cL cI nv nb nt nf na lv nm vw vp tw ab am w)) (wr := []) ⟨hx, hb, hml, hown, hts⟩ (c_B_modelRow l D ad cL cI nv nb nt nf na lv nm vw vp tw ab am w hok ) ⟨callB_of 0 hts (gW wd_102) rfl rfl rfl (hts _ wd_1) (hts _ wd_99) hd_B_modelRow ⟨Nat.le_of_ble_eq_true rfl, Nat.le_of_ble_eq_true rfl⟩, hts _ wd_101, hts _ wd_p1⟩ XT_ok (fun _ _ _ => trivial) hK hP hD hS hA 0 0 rfl rfl rfl [0, 1] [0, 1, 2, 3, 4, 5, 6, 7, 8] [] [0, 1, 2, 3, 4, 5, 6, 7, 8] rfl rfl rfl rfl rfl (by decide) rfl rfl rfl hl.1 rfl (Nat.le_of_ble_eq_true rfl) d_B_push_21 ⟨Nat.zero_le _, Nat.zero_le _⟩ (st1 := [.int (nI (250 + lv)), .ref (ad 2)]) rfl (fun H locs hP hD hS => ?_)
    refine lv_iconst (v := nI 1) hx hb d_B_push_24 (by decide) ?_
    refine n_add hx hb d_B_push_25 ?_
    refine lv_aload_n hx hb d_B_push_26 rfl (lv_at hl 0 rfl) ?_
    refine fn_V (ws' := (bsW ad cL cI nv nb nt nf na lv nm vw vp tw ab am w)) (w1 := (bsW ad cL cI nv nb nt nf na lv nm vw vp tw ab am w)) (wc := (bsW ad cL cI nv nb nt nf na lv nm vw vp tw ab am w)) (wr := []) ⟨hx, hb, hml, hown, hts⟩ (c_B_modelRow l D ad cL cI nv nb nt nf na lv nm vw vp tw ab am w hok ) ⟨callB_of 0 hts (gW wd_102) rfl rfl rfl (hts _ wd_1) (hts _ wd_99) hd_B_modelRow ⟨Nat.le_of_ble_eq_true rfl, Nat.le_of_ble_eq_true rfl⟩, hts _ wd_101, hts _ wd_p1⟩ XT_ok (fun _ _ _ => trivial) hK hP hD hS hA 0 0 rfl rfl rfl [0, 1] [0, 1, 2, 3, 4, 5, 6, 7, 8] [] [0, 1, 2, 3, 4, 5, 6, 7, 8] rfl rfl rfl rfl rfl (by decide) rfl rfl rfl hl.1 rfl (Nat.le_of_ble_eq_true rfl) d_B_push_27 ⟨Nat.zero_le _, Nat.zero_le _⟩ (st1 := [.int (nI (250 + lv)), .int (nI ((250 + lv) + 1)), .ref (ad 2)]) rfl (fun H locs hP hD hS => ?_)
    refine lv_iconst (v := nI 1) hx hb d_B_push_30 (by decide) ?_
    refine fn_V (ws' := (bsW ad cL cI nv nb nt nf na lv nm vw vp tw ab am (oCopy ((250 + lv) + 1) (250 + lv) 1 w))) (w1 := (setsW (ad 2) (ad 3) cL (oCopy ((250 + lv) + 1) (250 + lv) 1 w))) (wc := (setsW (ad 2) (ad 3) cL w)) (wr := [(ad 0, .inr (0, [.ref (ad 2), .ref (ad 1), .ref (ad 4), .ref (ad 5), .int (nI nv), .int (nI nb), .ref (ad 6), .int (nI nt), .int (nI nf), .ref (ad 7), .int (nI na), .int (nI lv), .ref (ad 8), .int (nI nm)])), (ad 1, .inr (2, [.ref (ad 2)])), (ad 4, .inl (cI, 6, .inl (fun j => nI (vw j)))), (ad 5, .inl (cI, 6, .inl (fun j => nI (vp j)))), (ad 6, .inl (cI, 50, .inl (fun j => nI (tw j)))), (ad 7, .inl (cI, 6, .inl (fun j => nI (ab j)))), (ad 8, .inl (cI, 8, .inl (fun j => nI (am j))))]) ⟨hx, hb, hml, hown, hts⟩ (c_S_copy l D (ad 2) (ad 3) cL w ((250 + lv) + 1) (250 + lv) 1 (by omega) (by omega) (by omega)) ⟨callB_of 3 hts (gW wd_130) rfl rfl rfl (hts _ wd_3) (hts _ wd_127) hd_S_copy ⟨Nat.le_of_ble_eq_true rfl, Nat.le_of_ble_eq_true rfl⟩, hts _ wd_128, hts _ wd_129⟩ XT_ok (fun _ _ _ => trivial) hK hP hD hS hA 2 1 rfl rfl rfl [0] [2, 3] [0, 1, 4, 5, 6, 7, 8] [0, 1, 7, 8, 2, 3, 4, 5, 6] rfl rfl rfl rfl rfl (by decide) rfl rfl rfl hl.1 rfl (Nat.le_of_ble_eq_true rfl) d_B_push_31 ⟨Nat.zero_le _, Nat.zero_le _⟩ (st1 := []) rfl (fun H locs hP hD hS => ?_)
    refine lv_aload_n hx hb d_B_push_34 rfl (lv_at hl 0 rfl) ?_
    refine lv_dup hx hb d_B_push_35 rfl ?_
    refine va_get (D := D) (ci := 0) (v := .int (nI lv)) (C := R_B) (T := F_B) (N := 14) hx hb hts in_B hown hK hP 0 rfl rfl 11 (by decide) (hts _ wd_58) (fun _ h9 => h9) rfl d_B_push_36 ?_
    refine lv_iconst (v := nI 1) hx hb d_B_push_39 (by decide) ?_
    refine n_add hx hb d_B_push_40 ?_
    refine va_put (D := D) (ci := 0) (v := .int (nI (lv + 1))) (ty := .int) (C := R_B) (T := F_B) (N := 14) hx hb hts in_B t_B tok_B nm_B hown hK hP hD hS 0 rfl rfl 11 (by decide) (hts _ wd_58) (fun _ h9 => h9) rfl (by decide +kernel) rfl rfl (Nat.le_of_ble_eq_true rfl) d_B_push_41 (fun H locs hP hD hS => ?_)
    have hP : va_P D cls (bsW ad cL cI nv nb nt nf na (lv + 1) nm vw vp tw ab am (oCopy ((250 + lv) + 1) (250 + lv) 1 w)) H := hP
    have hD : va_D A (bsW ad cL cI nv nb nt nf na (lv + 1) nm vw vp tw ab am (oCopy ((250 + lv) + 1) (250 + lv) 1 w)) := hD
    refine lv_aload_n hx hb d_B_push_44 rfl (lv_at hl 0 rfl) ?_
    refine va_get (D := D) (ci := 0) (v := .ref (ad 7)) (C := R_B) (T := F_B) (N := 14) hx hb hts in_B hown hK hP 0 rfl rfl 9 (by decide) (hts _ wd_56) (fun _ h9 => h9) rfl d_B_push_45 ?_
    refine lv_aload_n hx hb d_B_push_48 rfl (lv_at hl 0 rfl) ?_
    refine va_get (D := D) (ci := 0) (v := .int (nI (lv + 1))) (C := R_B) (T := F_B) (N := 14) hx hb hts in_B hown hK hP 0 rfl rfl 11 (by decide) (hts _ wd_58) (fun _ h9 => h9) rfl d_B_push_49 ?_
    refine lv_aload_n hx hb d_B_push_52 rfl (lv_at hl 0 rfl) ?_
    refine va_get (D := D) (ci := 0) (v := .int (nI na)) (C := R_B) (T := F_B) (N := 14) hx hb hts in_B hown hK hP 0 rfl rfl 10 (by decide) (hts _ wd_57) (fun _ h9 => h9) rfl d_B_push_53 ?_
    refine n_iast hx hb hK hP hD hS 7 1 rfl rfl (i := lv + 1) (by omega) (by omega) (updN_I _ _ _) d_B_push_56 (ws' := (bsW ad cL cI nv nb nt nf na (lv + 1) nm vw vp tw (updN ab (lv + 1) na) am (oCopy ((250 + lv) + 1) (250 + lv) 1 w))) rfl (fun H locs hP hD hS => ?_)
    refine lv_aload_n hx hb d_B_push_57 rfl (lv_at hl 0 rfl) ?_
    refine va_get (D := D) (ci := 0) (v := .int (nI (lv + 1))) (C := R_B) (T := F_B) (N := 14) hx hb hts in_B hown hK hP 0 rfl rfl 11 (by decide) (hts _ wd_58) (fun _ h9 => h9) rfl d_B_push_58 ?_
    exact fn_iret hx hb hr hlocks hAe hK hP hD hS rfl d_B_push_61
  · exact absurd c_5 (by omega)
set_option maxHeartbeats 4000000 in
set_option maxRecDepth 100000 in
theorem c_B_pop (l : Launch) (D : va_G) (ad : Nat → Nat) (cL cI : ClassId) (nv nb nt nf na lv nm : Nat) (vw vp tw ab am : Nat → Nat) (w : Nat → Int64) (hok : Bok nv nb nt nf na lv nm vw vp tw ab am) (hn : 0 < lv) : Fn l y_B_pop (wk y_B_pop b_B_pop 2 (some .int)) rm_B_pop D cls [(cL, .long), (cI, .int)] [.ref (ad 0)] (bsW ad cL cI nv nb nt nf na lv nm vw vp tw ab am w) XT (some (.int (nI (na - ab lv)))) (bsW ad cL cI nv nb nt nf (ab lv) (lv - 1) nm vw vp tw ab am w) := by
  refine Fn.of (by decide) rfl (Nat.le_of_ble_eq_true rfl) ?_
  intro p e s m below meth c A ls hx hb hml hr hts0 hown hlocks hnm hP hK hD hS hA hAe hX hl
  have hts : ∀ w ∈ lw_ok, w.before _ s = true := fun w h => hts0 w (List.mem_cons_of_mem _ h)
  have hown : s.vm.findClass R_B = some m.cls := hown
  have hP : va_P D cls (bsW ad cL cI nv nb nt nf na lv nm vw vp tw ab am w) s.heap := hP
  have hl : lv_has ls 2 [(0, .ref (ad 0))] := hl
  obtain ⟨o_nv, o_nb, o_nt, o_nf, o_na, o_lv, o_nm, o_vw, o_tw, o_am, o_ab⟩ := id hok
  have oab := o_ab lv hn (Nat.le_refl _)
  refine lv_aload_n hx hb d_B_pop_0 rfl (lv_at hl 0 rfl) ?_
  refine va_get (D := D) (ci := 0) (v := .int (nI lv)) (C := R_B) (T := F_B) (N := 14) hx hb hts in_B hown hK hP 0 rfl rfl 11 (by decide) (hts _ wd_58) (fun _ h9 => h9) rfl d_B_pop_1 ?_
  refine z_if_ne (tgt := 15) hx hb (nI_toInt (by omega)) d_B_pop_4 (by decide) (fun c_4 => ?_) (fun c_4 => ?_)
  · refine lv_aload_n hx hb d_B_pop_15 rfl (lv_at hl 0 rfl) ?_
    refine va_get (D := D) (ci := 0) (v := .int (nI na)) (C := R_B) (T := F_B) (N := 14) hx hb hts in_B hown hK hP 0 rfl rfl 10 (by decide) (hts _ wd_57) (fun _ h9 => h9) rfl d_B_pop_16 ?_
    refine lv_aload_n hx hb d_B_pop_19 rfl (lv_at hl 0 rfl) ?_
    refine va_get (D := D) (ci := 0) (v := .ref (ad 7)) (C := R_B) (T := F_B) (N := 14) hx hb hts in_B hown hK hP 0 rfl rfl 9 (by decide) (hts _ wd_56) (fun _ h9 => h9) rfl d_B_pop_20 ?_
    refine lv_aload_n hx hb d_B_pop_23 rfl (lv_at hl 0 rfl) ?_
    refine va_get (D := D) (ci := 0) (v := .int (nI lv)) (C := R_B) (T := F_B) (N := 14) hx hb hts in_B hown hK hP 0 rfl rfl 11 (by decide) (hts _ wd_58) (fun _ h9 => h9) rfl d_B_pop_24 ?_
    refine n_iald hx hb hK hP 7 1 rfl rfl (i := lv) (by omega) (by omega) d_B_pop_27 ?_
    refine n_sub hx hb (by omega) d_B_pop_28 ?_
    refine lv_istore_n (lv' := [(1, .int (nI (na - (ab lv)))), (0, .ref (ad 0))]) hx hb d_B_pop_29 rfl hl (by decide) rfl (fun ls hl => ?_)
    refine lv_aload_n hx hb d_B_pop_30 rfl (lv_at hl 1 rfl) ?_
    refine lv_aload_n hx hb d_B_pop_31 rfl (lv_at hl 1 rfl) ?_
    refine va_get (D := D) (ci := 0) (v := .ref (ad 7)) (C := R_B) (T := F_B) (N := 14) hx hb hts in_B hown hK hP 0 rfl rfl 9 (by decide) (hts _ wd_56) (fun _ h9 => h9) rfl d_B_pop_32 ?_
    refine lv_aload_n hx hb d_B_pop_35 rfl (lv_at hl 1 rfl) ?_
    refine va_get (D := D) (ci := 0) (v := .int (nI lv)) (C := R_B) (T := F_B) (N := 14) hx hb hts in_B hown hK hP 0 rfl rfl 11 (by decide) (hts _ wd_58) (fun _ h9 => h9) rfl d_B_pop_36 ?_
    refine n_iald hx hb hK hP 7 1 rfl rfl (i := lv) (by omega) (by omega) d_B_pop_39 ?_
    refine va_put (D := D) (ci := 0) (v := .int (nI (ab lv))) (ty := .int) (C := R_B) (T := F_B) (N := 14) hx hb hts in_B t_B tok_B nm_B hown hK hP hD hS 0 rfl rfl 10 (by decide) (hts _ wd_57) (fun _ h9 => h9) rfl (by decide +kernel) rfl rfl (Nat.le_of_ble_eq_true rfl) d_B_pop_40 (fun H locs hP hD hS => ?_)
    have hP : va_P D cls (bsW ad cL cI nv nb nt nf (ab lv) lv nm vw vp tw ab am w) H := hP
    have hD : va_D A (bsW ad cL cI nv nb nt nf (ab lv) lv nm vw vp tw ab am w) := hD
    refine lv_aload_n hx hb d_B_pop_43 rfl (lv_at hl 1 rfl) ?_
    refine lv_dup hx hb d_B_pop_44 rfl ?_
    refine va_get (D := D) (ci := 0) (v := .int (nI lv)) (C := R_B) (T := F_B) (N := 14) hx hb hts in_B hown hK hP 0 rfl rfl 11 (by decide) (hts _ wd_58) (fun _ h9 => h9) rfl d_B_pop_45 ?_
    refine lv_iconst (v := nI 1) hx hb d_B_pop_48 (by decide) ?_
    refine n_sub hx hb (by omega) d_B_pop_49 ?_
    refine va_put (D := D) (ci := 0) (v := .int (nI (lv - 1))) (ty := .int) (C := R_B) (T := F_B) (N := 14) hx hb hts in_B t_B tok_B nm_B hown hK hP hD hS 0 rfl rfl 11 (by decide) (hts _ wd_58) (fun _ h9 => h9) rfl (by decide +kernel) rfl rfl (Nat.le_of_ble_eq_true rfl) d_B_pop_50 (fun H locs hP hD hS => ?_)
    have hP : va_P D cls (bsW ad cL cI nv nb nt nf (ab lv) (lv - 1) nm vw vp tw ab am w) H := hP
    have hD : va_D A (bsW ad cL cI nv nb nt nf (ab lv) (lv - 1) nm vw vp tw ab am w) := hD
    refine lv_iload_n hx hb d_B_pop_53 rfl (lv_at hl 0 rfl) ?_
    exact fn_iret hx hb hr hlocks hAe hK hP hD hS rfl d_B_pop_54
  · exact absurd c_4 (by omega)
set_option maxHeartbeats 4000000 in
set_option maxRecDepth 100000 in
theorem c_B_check (l : Launch) (D : va_G) (ad : Nat → Nat) (cL cI : ClassId) (nv nb nt nf na lv nm : Nat) (vw vp tw ab am : Nat → Nat) (w : Nat → Int64) (hok : Bok nv nb nt nf na lv nm vw vp tw ab am)  : Fn l y_B_check (wk y_B_check b_B_check 1 (some .int)) rm_B_check D cls [(cL, .long), (cI, .int)] [.ref (ad 0)] (bsW ad cL cI nv nb nt nf na lv nm vw vp tw ab am w) XT (some (.int (bI (!pNone w (250 + lv) (250 + lv))))) (bsW ad cL cI nv nb nt nf na lv nm vw vp tw ab am w) := by
  refine Fn.of (by decide) rfl (Nat.le_of_ble_eq_true rfl) ?_
  intro p e s m below meth c A ls hx hb hml hr hts0 hown hlocks hnm hP hK hD hS hA hAe hX hl
  have hts : ∀ w ∈ lw_ok, w.before _ s = true := fun w h => hts0 w (List.mem_cons_of_mem _ h)
  have hown : s.vm.findClass R_B = some m.cls := hown
  have hP : va_P D cls (bsW ad cL cI nv nb nt nf na lv nm vw vp tw ab am w) s.heap := hP
  have hl : lv_has ls 1 [(0, .ref (ad 0))] := hl
  obtain ⟨o_nv, o_nb, o_nt, o_nf, o_na, o_lv, o_nm, o_vw, o_tw, o_am, o_ab⟩ := id hok
  refine lv_aload_n hx hb d_B_check_0 rfl (lv_at hl 0 rfl) ?_
  refine fn_V (ws' := (bsW ad cL cI nv nb nt nf na lv nm vw vp tw ab am w)) (w1 := (bsW ad cL cI nv nb nt nf na lv nm vw vp tw ab am w)) (wc := (bsW ad cL cI nv nb nt nf na lv nm vw vp tw ab am w)) (wr := []) ⟨hx, hb, hml, hown, hts⟩ (c_B_hasModel l D ad cL cI nv nb nt nf na lv nm vw vp tw ab am w hok ) ⟨callB_of 0 hts (gW wd_98) rfl rfl rfl (hts _ wd_1) (hts _ wd_95) hd_B_hasModel ⟨Nat.le_of_ble_eq_true rfl, Nat.le_of_ble_eq_true rfl⟩, hts _ wd_97, hts _ wd_p0⟩ XT_ok (fun _ _ _ => trivial) hK hP hD hS hA 0 0 rfl rfl rfl [0, 1] [0, 1, 2, 3, 4, 5, 6, 7, 8] [] [0, 1, 2, 3, 4, 5, 6, 7, 8] rfl rfl rfl rfl rfl (by decide) rfl rfl rfl hl.1 rfl (Nat.le_of_ble_eq_true rfl) d_B_check_1 ⟨Nat.zero_le _, Nat.zero_le _⟩ (st1 := [.int (bI (!pNone w (250 + lv) (250 + lv)))]) rfl (fun H locs hP hD hS => ?_)
  refine b_if_eq (tgt := 11) hx hb d_B_check_4 (by decide) (fun c_4 => ?_) (fun c_4 => ?_)
  · refine lv_iconst (v := nI 0) hx hb d_B_check_11 (by decide) ?_
    exact fn_iret hx hb hr hlocks hAe hK hP hD hS (by rw [c_4]; rfl) d_B_check_12
  · refine lv_iconst (v := nI 1) hx hb d_B_check_7 (by decide) ?_
    refine lv_goto (tgt := 12) hx hb d_B_check_8 (by decide) ?_
    exact fn_iret hx hb hr hlocks hAe hK hP hD hS (by rw [c_4]; rfl) d_B_check_12
set_option maxHeartbeats 4000000 in
set_option maxRecDepth 100000 in
theorem c_B_value (l : Launch) (D : va_G) (ad : Nat → Nat) (cL cI : ClassId) (nv nb nt nf na lv nm : Nat) (vw vp tw ab am : Nat → Nat) (w : Nat → Int64) (hok : Bok nv nb nt nf na lv nm vw vp tw ab am) (v : Nat) (hv : v < nv) (hm : (!pNone w (250 + lv) (250 + lv)) = true) : Fn l y_B_value (wk y_B_value b_B_value 3 (some .int)) rm_B_value D cls [(cL, .long), (cI, .int)] [.ref (ad 0), .int (nI v)] (bsW ad cL cI nv nb nt nf na lv nm vw vp tw ab am w) XT (some (.int (nI (pLow w (250 + lv) / 2 ^ vp v &&& 2 ^ vw v - 1)))) (bsW ad cL cI nv nb nt nf na lv nm vw vp tw ab am w) := by
  refine Fn.of (by decide) rfl (Nat.le_of_ble_eq_true rfl) ?_
  intro p e s m below meth c A ls hx hb hml hr hts0 hown hlocks hnm hP hK hD hS hA hAe hX hl
  have hts : ∀ w ∈ lw_ok, w.before _ s = true := fun w h => hts0 w (List.mem_cons_of_mem _ h)
  have hown : s.vm.findClass R_B = some m.cls := hown
  have hP : va_P D cls (bsW ad cL cI nv nb nt nf na lv nm vw vp tw ab am w) s.heap := hP
  have hl : lv_has ls 3 [(0, .ref (ad 0)), (1, .int (nI v))] := hl
  obtain ⟨o_nv, o_nb, o_nt, o_nf, o_na, o_lv, o_nm, o_vw, o_tw, o_am, o_ab⟩ := id hok
  have ov := o_vw v hv
  have o2 : 1 ≤ 2 ^ vw v := Nat.one_le_two_pow
  have pl := pLow_lt w (250 + lv)
  refine lv_aload_n hx hb d_B_value_0 rfl (lv_at hl 0 rfl) ?_
  refine lv_iload_n hx hb d_B_value_1 rfl (lv_at hl 1 rfl) ?_
  refine fn_V (ws' := (bsW ad cL cI nv nb nt nf na lv nm vw vp tw ab am w)) (w1 := (bsW ad cL cI nv nb nt nf na lv nm vw vp tw ab am w)) (wc := (bsW ad cL cI nv nb nt nf na lv nm vw vp tw ab am w)) (wr := []) ⟨hx, hb, hml, hown, hts⟩ (c_B_hasVariable l D ad cL cI nv nb nt nf na lv nm vw vp tw ab am w hok (nI v)) ⟨callB_of 1 hts (gW wd_240) rfl rfl rfl (hts _ wd_1) (hts _ wd_237) hd_B_hasVariable ⟨Nat.le_of_ble_eq_true rfl, Nat.le_of_ble_eq_true rfl⟩, hts _ wd_239, hts _ wd_p7⟩ XT_ok (fun _ _ _ => trivial) hK hP hD hS hA 0 0 rfl rfl rfl [0, 1] [0, 1, 2, 3, 4, 5, 6, 7, 8] [] [0, 1, 2, 3, 4, 5, 6, 7, 8] rfl rfl rfl rfl rfl (by decide) rfl rfl rfl hl.1 rfl (Nat.le_of_ble_eq_true rfl) d_B_value_2 ⟨Nat.zero_le _, Nat.zero_le _⟩ (st1 := [.int (bI (hasB (nI v) nv))]) rfl (fun H locs hP hD hS => ?_)
  refine b_if_ne (tgt := 16) hx hb d_B_value_5 (by decide) (fun c_5 => ?_) (fun c_5 => ?_)
  · refine lv_aload_n hx hb d_B_value_16 rfl (lv_at hl 0 rfl) ?_
    refine fn_V (ws' := (bsW ad cL cI nv nb nt nf na lv nm vw vp tw ab am w)) (w1 := (bsW ad cL cI nv nb nt nf na lv nm vw vp tw ab am w)) (wc := (bsW ad cL cI nv nb nt nf na lv nm vw vp tw ab am w)) (wr := []) ⟨hx, hb, hml, hown, hts⟩ (c_B_hasModel l D ad cL cI nv nb nt nf na lv nm vw vp tw ab am w hok ) ⟨callB_of 0 hts (gW wd_98) rfl rfl rfl (hts _ wd_1) (hts _ wd_95) hd_B_hasModel ⟨Nat.le_of_ble_eq_true rfl, Nat.le_of_ble_eq_true rfl⟩, hts _ wd_97, hts _ wd_p0⟩ XT_ok (fun _ _ _ => trivial) hK hP hD hS hA 0 0 rfl rfl rfl [0, 1] [0, 1, 2, 3, 4, 5, 6, 7, 8] [] [0, 1, 2, 3, 4, 5, 6, 7, 8] rfl rfl rfl rfl rfl (by decide) rfl rfl rfl hl.1 rfl (Nat.le_of_ble_eq_true rfl) d_B_value_17 ⟨Nat.zero_le _, Nat.zero_le _⟩ (st1 := [.int (bI (!pNone w (250 + lv) (250 + lv)))]) rfl (fun H locs hP hD hS => ?_)
    refine b_if_ne (tgt := 31) hx hb d_B_value_20 (by decide) (fun c_20 => ?_) (fun c_20 => ?_)
    · refine lv_iconst (v := nI 1) hx hb d_B_value_31 (by decide) ?_
      refine lv_aload_n hx hb d_B_value_32 rfl (lv_at hl 0 rfl) ?_
      refine va_get (D := D) (ci := 0) (v := .ref (ad 4)) (C := R_B) (T := F_B) (N := 14) hx hb hts in_B hown hK hP 0 rfl rfl 2 (by decide) (hts _ wd_49) (fun _ h9 => h9) rfl d_B_value_33 ?_
      refine lv_iload_n hx hb d_B_value_36 rfl (lv_at hl 1 rfl) ?_
      refine n_iald hx hb hK hP 4 1 rfl rfl (i := v) (by omega) (by omega) d_B_value_37 ?_
      refine n_shl1 hx hb (by omega) d_B_value_38 ?_
      refine lv_iconst (v := nI 1) hx hb d_B_value_39 (by decide) ?_
      refine n_sub hx hb (by omega) d_B_value_40 ?_
      refine lv_istore_n (lv' := [(2, .int (nI ((2 ^ (vw v)) - 1))), (0, .ref (ad 0)), (1, .int (nI v))]) hx hb d_B_value_41 rfl hl (by decide) rfl (fun ls hl => ?_)
      refine lv_aload_n hx hb d_B_value_42 rfl (lv_at hl 1 rfl) ?_
      refine va_get (D := D) (ci := 0) (v := .ref (ad 2)) (C := R_B) (T := F_B) (N := 14) hx hb hts in_B hown hK hP 0 rfl rfl 0 (by decide) (hts _ wd_47) (fun _ h9 => h9) rfl d_B_value_43 ?_
      refine lv_aload_n hx hb d_B_value_46 rfl (lv_at hl 1 rfl) ?_
      refine fn_V (ws' := (bsW ad cL cI nv nb nt nf na lv nm vw vp tw ab am w)) (w1 := (bsW ad cL cI nv nb nt nf na lv nm vw vp tw ab am w)) (wc := (bsW ad cL cI nv nb nt nf na lv nm vw vp tw ab am w)) (wr := []) ⟨hx, hb, hml, hown, hts⟩ (c_B_modelRow l D ad cL cI nv nb nt nf na lv nm vw vp tw ab am w hok ) ⟨callB_of 0 hts (gW wd_102) rfl rfl rfl (hts _ wd_1) (hts _ wd_99) hd_B_modelRow ⟨Nat.le_of_ble_eq_true rfl, Nat.le_of_ble_eq_true rfl⟩, hts _ wd_101, hts _ wd_p1⟩ XT_ok (fun _ _ _ => trivial) hK hP hD hS hA 0 0 rfl rfl rfl [0, 1] [0, 1, 2, 3, 4, 5, 6, 7, 8] [] [0, 1, 2, 3, 4, 5, 6, 7, 8] rfl rfl rfl rfl rfl (by decide) rfl rfl rfl hl.1 rfl (Nat.le_of_ble_eq_true rfl) d_B_value_47 ⟨Nat.zero_le _, Nat.zero_le _⟩ (st1 := [.int (nI (250 + lv)), .ref (ad 2)]) rfl (fun H locs hP hD hS => ?_)
      refine fn_V (ws' := (bsW ad cL cI nv nb nt nf na lv nm vw vp tw ab am w)) (w1 := (setsW (ad 2) (ad 3) cL w)) (wc := (setsW (ad 2) (ad 3) cL w)) (wr := [(ad 0, .inr (0, [.ref (ad 2), .ref (ad 1), .ref (ad 4), .ref (ad 5), .int (nI nv), .int (nI nb), .ref (ad 6), .int (nI nt), .int (nI nf), .ref (ad 7), .int (nI na), .int (nI lv), .ref (ad 8), .int (nI nm)])), (ad 1, .inr (2, [.ref (ad 2)])), (ad 4, .inl (cI, 6, .inl (fun j => nI (vw j)))), (ad 5, .inl (cI, 6, .inl (fun j => nI (vp j)))), (ad 6, .inl (cI, 50, .inl (fun j => nI (tw j)))), (ad 7, .inl (cI, 6, .inl (fun j => nI (ab j)))), (ad 8, .inl (cI, 8, .inl (fun j => nI (am j))))]) ⟨hx, hb, hml, hown, hts⟩ (c_S_lowest l D (ad 2) (ad 3) cL w (250 + lv) (by omega)) ⟨callB_of 1 hts (gW wd_442) rfl rfl rfl (hts _ wd_3) (hts _ wd_439) hd_S_lowest ⟨Nat.le_of_ble_eq_true rfl, Nat.le_of_ble_eq_true rfl⟩, hts _ wd_440, hts _ wd_441⟩ XT_ok (fun _ _ _ => trivial) hK hP hD hS hA 2 1 rfl rfl rfl [0] [2, 3] [0, 1, 4, 5, 6, 7, 8] [0, 1, 7, 8, 2, 3, 4, 5, 6] rfl rfl rfl rfl rfl (by decide) rfl rfl rfl hl.1 rfl (Nat.le_of_ble_eq_true rfl) d_B_value_50 ⟨Nat.zero_le _, Nat.zero_le _⟩ (st1 := [.int (nI (pLow w (250 + lv)))]) rfl (fun H locs hP hD hS => ?_)
      refine lv_aload_n hx hb d_B_value_53 rfl (lv_at hl 1 rfl) ?_
      refine va_get (D := D) (ci := 0) (v := .ref (ad 5)) (C := R_B) (T := F_B) (N := 14) hx hb hts in_B hown hK hP 0 rfl rfl 3 (by decide) (hts _ wd_50) (fun _ h9 => h9) rfl d_B_value_54 ?_
      refine lv_iload_n hx hb d_B_value_57 rfl (lv_at hl 2 rfl) ?_
      refine n_iald hx hb hK hP 5 1 rfl rfl (i := v) (by omega) (by omega) d_B_value_58 ?_
      refine n_shr hx hb (by omega) (by omega) d_B_value_59 ?_
      refine lv_iload_n hx hb d_B_value_60 rfl (lv_at hl 0 rfl) ?_
      refine n_and hx hb d_B_value_61 ?_
      exact fn_iret hx hb hr hlocks hAe hK hP hD hS rfl d_B_value_62
    · exact absurd hm (by rw [c_20]; decide)
  · exact absurd (hasB_I (n := nv) hv (by omega)) (by rw [c_5]; decide)
set_option maxHeartbeats 4000000 in
set_option maxRecDepth 100000 in
theorem c_B_valueOf (l : Launch) (D : va_G) (ad : Nat → Nat) (cL cI : ClassId) (nv nb nt nf na lv nm : Nat) (vw vp tw ab am : Nat → Nat) (w : Nat → Int64) (hok : Bok nv nb nt nf na lv nm vw vp tw ab am) (t : Nat) (ht : t < nt) (hm : (!pNone w (250 + lv) (250 + lv)) = true) : Fn l y_B_valueOf (wk y_B_valueOf b_B_valueOf 5 (some .int)) rm_B_valueOf D cls [(cL, .long), (cI, .int)] [.ref (ad 0), .int (nI t)] (bsW ad cL cI nv nb nt nf na lv nm vw vp tw ab am w) XT (some (.int (nI (vbits w (50 + t * 4) (pLow w (250 + lv)) (tw t))))) (bsW ad cL cI nv nb nt nf na lv nm vw vp tw ab am w) := by
  refine Fn.of (by decide) rfl (Nat.le_of_ble_eq_true rfl) ?_
  intro p e s m below meth c A ls hx hb hml hr hts0 hown hlocks hnm hP hK hD hS hA hAe hX hl
  have hts : ∀ w ∈ lw_ok, w.before _ s = true := fun w h => hts0 w (List.mem_cons_of_mem _ h)
  have hown : s.vm.findClass R_B = some m.cls := hown
  have hP : va_P D cls (bsW ad cL cI nv nb nt nf na lv nm vw vp tw ab am w) s.heap := hP
  have hl : lv_has ls 5 [(0, .ref (ad 0)), (1, .int (nI t))] := hl
  obtain ⟨o_nv, o_nb, o_nt, o_nf, o_na, o_lv, o_nm, o_vw, o_tw, o_am, o_ab⟩ := id hok
  have ot := o_tw t ht
  have pl := pLow_lt w (250 + lv)
  refine lv_aload_n hx hb d_B_valueOf_0 rfl (lv_at hl 0 rfl) ?_
  refine lv_iload_n hx hb d_B_valueOf_1 rfl (lv_at hl 1 rfl) ?_
  refine fn_V (ws' := (bsW ad cL cI nv nb nt nf na lv nm vw vp tw ab am w)) (w1 := (bsW ad cL cI nv nb nt nf na lv nm vw vp tw ab am w)) (wc := (bsW ad cL cI nv nb nt nf na lv nm vw vp tw ab am w)) (wr := []) ⟨hx, hb, hml, hown, hts⟩ (c_B_hasTerm l D ad cL cI nv nb nt nf na lv nm vw vp tw ab am w hok (nI t)) ⟨callB_of 1 hts (gW wd_252) rfl rfl rfl (hts _ wd_1) (hts _ wd_249) hd_B_hasTerm ⟨Nat.le_of_ble_eq_true rfl, Nat.le_of_ble_eq_true rfl⟩, hts _ wd_251, hts _ wd_p10⟩ XT_ok (fun _ _ _ => trivial) hK hP hD hS hA 0 0 rfl rfl rfl [0, 1] [0, 1, 2, 3, 4, 5, 6, 7, 8] [] [0, 1, 2, 3, 4, 5, 6, 7, 8] rfl rfl rfl rfl rfl (by decide) rfl rfl rfl hl.1 rfl (Nat.le_of_ble_eq_true rfl) d_B_valueOf_2 ⟨Nat.zero_le _, Nat.zero_le _⟩ (st1 := [.int (bI (hasB (nI t) nt))]) rfl (fun H locs hP hD hS => ?_)
  refine b_if_ne (tgt := 16) hx hb d_B_valueOf_5 (by decide) (fun c_5 => ?_) (fun c_5 => ?_)
  · refine lv_aload_n hx hb d_B_valueOf_16 rfl (lv_at hl 0 rfl) ?_
    refine fn_V (ws' := (bsW ad cL cI nv nb nt nf na lv nm vw vp tw ab am w)) (w1 := (bsW ad cL cI nv nb nt nf na lv nm vw vp tw ab am w)) (wc := (bsW ad cL cI nv nb nt nf na lv nm vw vp tw ab am w)) (wr := []) ⟨hx, hb, hml, hown, hts⟩ (c_B_hasModel l D ad cL cI nv nb nt nf na lv nm vw vp tw ab am w hok ) ⟨callB_of 0 hts (gW wd_98) rfl rfl rfl (hts _ wd_1) (hts _ wd_95) hd_B_hasModel ⟨Nat.le_of_ble_eq_true rfl, Nat.le_of_ble_eq_true rfl⟩, hts _ wd_97, hts _ wd_p0⟩ XT_ok (fun _ _ _ => trivial) hK hP hD hS hA 0 0 rfl rfl rfl [0, 1] [0, 1, 2, 3, 4, 5, 6, 7, 8] [] [0, 1, 2, 3, 4, 5, 6, 7, 8] rfl rfl rfl rfl rfl (by decide) rfl rfl rfl hl.1 rfl (Nat.le_of_ble_eq_true rfl) d_B_valueOf_17 ⟨Nat.zero_le _, Nat.zero_le _⟩ (st1 := [.int (bI (!pNone w (250 + lv) (250 + lv)))]) rfl (fun H locs hP hD hS => ?_)
    refine b_if_ne (tgt := 31) hx hb d_B_valueOf_20 (by decide) (fun c_20 => ?_) (fun c_20 => ?_)
    · refine lv_aload_n hx hb d_B_valueOf_31 rfl (lv_at hl 0 rfl) ?_
      refine va_get (D := D) (ci := 0) (v := .ref (ad 2)) (C := R_B) (T := F_B) (N := 14) hx hb hts in_B hown hK hP 0 rfl rfl 0 (by decide) (hts _ wd_47) (fun _ h9 => h9) rfl d_B_valueOf_32 ?_
      refine lv_aload_n hx hb d_B_valueOf_35 rfl (lv_at hl 0 rfl) ?_
      refine fn_V (ws' := (bsW ad cL cI nv nb nt nf na lv nm vw vp tw ab am w)) (w1 := (bsW ad cL cI nv nb nt nf na lv nm vw vp tw ab am w)) (wc := (bsW ad cL cI nv nb nt nf na lv nm vw vp tw ab am w)) (wr := []) ⟨hx, hb, hml, hown, hts⟩ (c_B_modelRow l D ad cL cI nv nb nt nf na lv nm vw vp tw ab am w hok ) ⟨callB_of 0 hts (gW wd_102) rfl rfl rfl (hts _ wd_1) (hts _ wd_99) hd_B_modelRow ⟨Nat.le_of_ble_eq_true rfl, Nat.le_of_ble_eq_true rfl⟩, hts _ wd_101, hts _ wd_p1⟩ XT_ok (fun _ _ _ => trivial) hK hP hD hS hA 0 0 rfl rfl rfl [0, 1] [0, 1, 2, 3, 4, 5, 6, 7, 8] [] [0, 1, 2, 3, 4, 5, 6, 7, 8] rfl rfl rfl rfl rfl (by decide) rfl rfl rfl hl.1 rfl (Nat.le_of_ble_eq_true rfl) d_B_valueOf_36 ⟨Nat.zero_le _, Nat.zero_le _⟩ (st1 := [.int (nI (250 + lv)), .ref (ad 2)]) rfl (fun H locs hP hD hS => ?_)
      refine fn_V (ws' := (bsW ad cL cI nv nb nt nf na lv nm vw vp tw ab am w)) (w1 := (setsW (ad 2) (ad 3) cL w)) (wc := (setsW (ad 2) (ad 3) cL w)) (wr := [(ad 0, .inr (0, [.ref (ad 2), .ref (ad 1), .ref (ad 4), .ref (ad 5), .int (nI nv), .int (nI nb), .ref (ad 6), .int (nI nt), .int (nI nf), .ref (ad 7), .int (nI na), .int (nI lv), .ref (ad 8), .int (nI nm)])), (ad 1, .inr (2, [.ref (ad 2)])), (ad 4, .inl (cI, 6, .inl (fun j => nI (vw j)))), (ad 5, .inl (cI, 6, .inl (fun j => nI (vp j)))), (ad 6, .inl (cI, 50, .inl (fun j => nI (tw j)))), (ad 7, .inl (cI, 6, .inl (fun j => nI (ab j)))), (ad 8, .inl (cI, 8, .inl (fun j => nI (am j))))]) ⟨hx, hb, hml, hown, hts⟩ (c_S_lowest l D (ad 2) (ad 3) cL w (250 + lv) (by omega)) ⟨callB_of 1 hts (gW wd_442) rfl rfl rfl (hts _ wd_3) (hts _ wd_439) hd_S_lowest ⟨Nat.le_of_ble_eq_true rfl, Nat.le_of_ble_eq_true rfl⟩, hts _ wd_440, hts _ wd_441⟩ XT_ok (fun _ _ _ => trivial) hK hP hD hS hA 2 1 rfl rfl rfl [0] [2, 3] [0, 1, 4, 5, 6, 7, 8] [0, 1, 7, 8, 2, 3, 4, 5, 6] rfl rfl rfl rfl rfl (by decide) rfl rfl rfl hl.1 rfl (Nat.le_of_ble_eq_true rfl) d_B_valueOf_39 ⟨Nat.zero_le _, Nat.zero_le _⟩ (st1 := [.int (nI (pLow w (250 + lv)))]) rfl (fun H locs hP hD hS => ?_)
      refine lv_istore_n (lv' := [(2, .int (nI (pLow w (250 + lv)))), (0, .ref (ad 0)), (1, .int (nI t))]) hx hb d_B_valueOf_42 rfl hl (by decide) rfl (fun ls hl => ?_)
      refine lv_iconst (v := nI 0) hx hb d_B_valueOf_43 (by decide) ?_
      refine lv_istore_n (lv' := [(3, .int (nI 0)), (2, .int (nI (pLow w (250 + lv)))), (0, .ref (ad 0)), (1, .int (nI t))]) hx hb d_B_valueOf_44 rfl hl (by decide) rfl (fun ls hl => ?_)
      refine lv_iconst (v := nI 0) hx hb d_B_valueOf_45 (by decide) ?_
      refine lv_istore (lv' := [(4, .int (nI 0)), (3, .int (nI 0)), (2, .int (nI (pLow w (250 + lv)))), (0, .ref (ad 0)), (1, .int (nI t))]) hx hb d_B_valueOf_46 hl (by decide) rfl (fun ls hl => ?_)
      refine w_loop 48 [] (tw t) (fun i H locs ls => va_P D cls (bsW ad cL cI nv nb nt nf na lv nm vw vp tw ab am w) H ∧ va_D A (bsW ad cL cI nv nb nt nf na lv nm vw vp tw ab am w) ∧ va_S A s.heap H locs ∧ lv_has ls 5 [(4, .int (nI i)), (3, .int (nI (vbits w (50 + t * 4) (pLow w (250 + lv)) i))), (2, .int (nI (pLow w (250 + lv)))), (0, .ref (ad 0)), (1, .int (nI t))]) ?_ 0 (Nat.zero_le _) _ _ ls ⟨hP, hD, hS, lv_sub hl [0, 1, 2, 3, 4] rfl⟩
      intro i hi ih H locs ls ⟨hP, hD, hS, hl⟩
      refine lv_iload hx hb d_B_valueOf_48 (lv_at hl 0 rfl) ?_
      refine lv_aload_n hx hb d_B_valueOf_50 rfl (lv_at hl 3 rfl) ?_
      refine va_get (D := D) (ci := 0) (v := .ref (ad 6)) (C := R_B) (T := F_B) (N := 14) hx hb hts in_B hown hK hP 0 rfl rfl 6 (by decide) (hts _ wd_53) (fun _ h9 => h9) rfl d_B_valueOf_51 ?_
      refine lv_iload_n hx hb d_B_valueOf_54 rfl (lv_at hl 4 rfl) ?_
      refine n_iald hx hb hK hP 6 1 rfl rfl (i := t) (by omega) (by omega) d_B_valueOf_55 ?_
      refine z_icmp_ge (tgt := 90) hx hb (nI_toInt (by omega)) (nI_toInt (by omega)) d_B_valueOf_56 (by decide) (fun c_56 => ?_) (fun c_56 => ?_)
      · obtain he : tw t = i := by omega
        refine lv_iload_n hx hb d_B_valueOf_90 rfl (lv_at hl 1 rfl) ?_
        exact fn_iret hx hb hr hlocks hAe hK hP hD hS (by rw [he]) d_B_valueOf_91
      · refine lv_aload_n hx hb d_B_valueOf_59 rfl (lv_at hl 3 rfl) ?_
        refine va_get (D := D) (ci := 0) (v := .ref (ad 2)) (C := R_B) (T := F_B) (N := 14) hx hb hts in_B hown hK hP 0 rfl rfl 0 (by decide) (hts _ wd_47) (fun _ h9 => h9) rfl d_B_valueOf_60 ?_
        refine lv_iload_n hx hb d_B_valueOf_63 rfl (lv_at hl 4 rfl) ?_
        refine fn_S (ws' := (bsW ad cL cI nv nb nt nf na lv nm vw vp tw ab am w)) (w1 := (nilW)) (wc := (nilW)) (wr := [(ad 0, .inr (0, [.ref (ad 2), .ref (ad 1), .ref (ad 4), .ref (ad 5), .int (nI nv), .int (nI nb), .ref (ad 6), .int (nI nt), .int (nI nf), .ref (ad 7), .int (nI na), .int (nI lv), .ref (ad 8), .int (nI nm)])), (ad 1, .inr (2, [.ref (ad 2)])), (ad 2, .inr (1, [.ref (ad 3)])), (ad 3, .inl (cL, 4160, .inr (.inl w))), (ad 4, .inl (cI, 6, .inl (fun j => nI (vw j)))), (ad 5, .inl (cI, 6, .inl (fun j => nI (vp j)))), (ad 6, .inl (cI, 50, .inl (fun j => nI (tw j)))), (ad 7, .inl (cI, 6, .inl (fun j => nI (ab j)))), (ad 8, .inl (cI, 8, .inl (fun j => nI (am j))))]) ⟨hx, hb, hml, hown, hts⟩ (c_B_termRow l D t) ⟨callB_of 1 hts (gW wd_267) rfl rfl rfl (hts _ wd_1) (hts _ wd_265) hd_B_termRow ⟨Nat.le_of_ble_eq_true rfl, Nat.le_of_ble_eq_true rfl⟩, hts _ wd_266⟩ XT_ok (fun _ _ _ => trivial) hK hP hD hS hA [] [] [0, 1, 2, 3, 4, 5, 6, 7, 8] [0, 1, 2, 3, 4, 5, 6, 7, 8] rfl rfl rfl rfl rfl (by decide) rfl rfl rfl hl.1 rfl (Nat.le_of_ble_eq_true rfl) d_B_valueOf_64 ⟨Nat.zero_le _, Nat.zero_le _⟩ (st1 := [.int (nI (50 + t * 4)), .ref (ad 2)]) rfl (fun H locs hP hD hS => ?_)
        refine lv_iload hx hb d_B_valueOf_67 (lv_at hl 0 rfl) ?_
        refine n_add hx hb d_B_valueOf_69 ?_
        refine lv_iload_n hx hb d_B_valueOf_70 rfl (lv_at hl 2 rfl) ?_
        refine fn_V (ws' := (bsW ad cL cI nv nb nt nf na lv nm vw vp tw ab am w)) (w1 := (setsW (ad 2) (ad 3) cL w)) (wc := (setsW (ad 2) (ad 3) cL w)) (wr := [(ad 0, .inr (0, [.ref (ad 2), .ref (ad 1), .ref (ad 4), .ref (ad 5), .int (nI nv), .int (nI nb), .ref (ad 6), .int (nI nt), .int (nI nf), .ref (ad 7), .int (nI na), .int (nI lv), .ref (ad 8), .int (nI nm)])), (ad 1, .inr (2, [.ref (ad 2)])), (ad 4, .inl (cI, 6, .inl (fun j => nI (vw j)))), (ad 5, .inl (cI, 6, .inl (fun j => nI (vp j)))), (ad 6, .inl (cI, 50, .inl (fun j => nI (tw j)))), (ad 7, .inl (cI, 6, .inl (fun j => nI (ab j)))), (ad 8, .inl (cI, 8, .inl (fun j => nI (am j))))]) ⟨hx, hb, hml, hown, hts⟩ (c_S_contains l D (ad 2) (ad 3) cL w ((50 + t * 4) + i) (pLow w (250 + lv)) (by omega) (by omega)) ⟨callB_of 2 hts (gW wd_456) rfl rfl rfl (hts _ wd_3) (hts _ wd_453) hd_S_contains ⟨Nat.le_of_ble_eq_true rfl, Nat.le_of_ble_eq_true rfl⟩, hts _ wd_454, hts _ wd_455⟩ XT_ok (fun _ _ _ => trivial) hK hP hD hS hA 2 1 rfl rfl rfl [0] [2, 3] [0, 1, 4, 5, 6, 7, 8] [0, 1, 7, 8, 2, 3, 4, 5, 6] rfl rfl rfl rfl rfl (by decide) rfl rfl rfl hl.1 rfl (Nat.le_of_ble_eq_true rfl) d_B_valueOf_71 ⟨Nat.zero_le _, Nat.zero_le _⟩ (st1 := [.int (bI (pBit w ((50 + t * 4) + i) (pLow w (250 + lv))))]) rfl (fun H locs hP hD hS => ?_)
        refine b_if_eq (tgt := 84) hx hb d_B_valueOf_74 (by decide) (fun c_74 => ?_) (fun c_74 => ?_)
        · refine lv_iinc (v := nI (i + 1)) (lv' := [(4, .int (nI (i + 1))), (3, .int (nI (vbits w (50 + t * 4) (pLow w (250 + lv)) i))), (2, .int (nI (pLow w (250 + lv)))), (0, .ref (ad 0)), (1, .int (nI t))]) hx hb d_B_valueOf_84 hl (k := 0) rfl (by rw [← nI_1]; rfl) (by decide) rfl (fun ls hl => ?_)
          refine lv_goto (tgt := 48) hx hb d_B_valueOf_87 (by decide) ?_
          exact ih _ _ _ (by omega) ⟨hP, hD, hS, by rw [show vbits w (50 + t * 4) (pLow w (250 + lv)) (i + 1) = vbits w (50 + t * 4) (pLow w (250 + lv)) i from if_neg (by rw [c_74]; decide)]; exact lv_sub hl [0, 1, 2, 3, 4] rfl⟩
        · refine lv_iload_n hx hb d_B_valueOf_77 rfl (lv_at hl 1 rfl) ?_
          refine lv_iconst (v := nI 1) hx hb d_B_valueOf_78 (by decide) ?_
          refine lv_iload hx hb d_B_valueOf_79 (lv_at hl 0 rfl) ?_
          refine n_shl1 hx hb (by omega) d_B_valueOf_81 ?_
          refine n_or hx hb d_B_valueOf_82 ?_
          refine lv_istore_n (lv' := [(3, .int (nI ((vbits w (50 + t * 4) (pLow w (250 + lv)) i) ||| (2 ^ i)))), (4, .int (nI i)), (2, .int (nI (pLow w (250 + lv)))), (0, .ref (ad 0)), (1, .int (nI t))]) hx hb d_B_valueOf_83 rfl hl (by decide) rfl (fun ls hl => ?_)
          refine lv_iinc (v := nI (i + 1)) (lv' := [(4, .int (nI (i + 1))), (3, .int (nI ((vbits w (50 + t * 4) (pLow w (250 + lv)) i) ||| (2 ^ i)))), (2, .int (nI (pLow w (250 + lv)))), (0, .ref (ad 0)), (1, .int (nI t))]) hx hb d_B_valueOf_84 hl (k := 1) rfl (by rw [← nI_1]; rfl) (by decide) rfl (fun ls hl => ?_)
          refine lv_goto (tgt := 48) hx hb d_B_valueOf_87 (by decide) ?_
          exact ih _ _ _ (by omega) ⟨hP, hD, hS, by rw [show vbits w (50 + t * 4) (pLow w (250 + lv)) (i + 1) = (vbits w (50 + t * 4) (pLow w (250 + lv)) i) ||| (2 ^ i) from if_pos c_74]; exact lv_sub hl [0, 1, 2, 3, 4] rfl⟩
    · exact absurd hm (by rw [c_20]; decide)
  · exact absurd (hasB_I (n := nt) ht (by omega)) (by rw [c_5]; decide)
set_option maxHeartbeats 4000000 in
set_option maxRecDepth 100000 in
theorem c_B_entailed (l : Launch) (D : va_G) (ad : Nat → Nat) (cL cI : ClassId) (nv nb nt nf na lv nm : Nat) (vw vp tw ab am : Nat → Nat) (w : Nat → Int64) (hok : Bok nv nb nt nf na lv nm vw vp tw ab am) (f : Nat) (hf : f < nf) (hm : (!pNone w (250 + lv) (250 + lv)) = true) : Fn l y_B_entailed (wk y_B_entailed b_B_entailed 2 (some .int)) rm_B_entailed D cls [(cL, .long), (cI, .int)] [.ref (ad 0), .int (nI f)] (bsW ad cL cI nv nb nt nf na lv nm vw vp tw ab am w) XT (some (.int (nI (if pWithin w (250 + lv) f = true then 1 else if (!pNone w (250 + lv) f) = true then 2 else 0)))) (bsW ad cL cI nv nb nt nf na lv nm vw vp tw ab am w) := by
  refine Fn.of (by decide) rfl (Nat.le_of_ble_eq_true rfl) ?_
  intro p e s m below meth c A ls hx hb hml hr hts0 hown hlocks hnm hP hK hD hS hA hAe hX hl
  have hts : ∀ w ∈ lw_ok, w.before _ s = true := fun w h => hts0 w (List.mem_cons_of_mem _ h)
  have hown : s.vm.findClass R_B = some m.cls := hown
  have hP : va_P D cls (bsW ad cL cI nv nb nt nf na lv nm vw vp tw ab am w) s.heap := hP
  have hl : lv_has ls 2 [(0, .ref (ad 0)), (1, .int (nI f))] := hl
  obtain ⟨o_nv, o_nb, o_nt, o_nf, o_na, o_lv, o_nm, o_vw, o_tw, o_am, o_ab⟩ := id hok
  refine lv_aload_n hx hb d_B_entailed_0 rfl (lv_at hl 0 rfl) ?_
  refine lv_iload_n hx hb d_B_entailed_1 rfl (lv_at hl 1 rfl) ?_
  refine fn_V (ws' := (bsW ad cL cI nv nb nt nf na lv nm vw vp tw ab am w)) (w1 := (bsW ad cL cI nv nb nt nf na lv nm vw vp tw ab am w)) (wc := (bsW ad cL cI nv nb nt nf na lv nm vw vp tw ab am w)) (wr := []) ⟨hx, hb, hml, hown, hts⟩ (c_B_hasFormula l D ad cL cI nv nb nt nf na lv nm vw vp tw ab am w hok (nI f)) ⟨callB_of 1 hts (gW wd_256) rfl rfl rfl (hts _ wd_1) (hts _ wd_253) hd_B_hasFormula ⟨Nat.le_of_ble_eq_true rfl, Nat.le_of_ble_eq_true rfl⟩, hts _ wd_255, hts _ wd_p11⟩ XT_ok (fun _ _ _ => trivial) hK hP hD hS hA 0 0 rfl rfl rfl [0, 1] [0, 1, 2, 3, 4, 5, 6, 7, 8] [] [0, 1, 2, 3, 4, 5, 6, 7, 8] rfl rfl rfl rfl rfl (by decide) rfl rfl rfl hl.1 rfl (Nat.le_of_ble_eq_true rfl) d_B_entailed_2 ⟨Nat.zero_le _, Nat.zero_le _⟩ (st1 := [.int (bI (hasB (nI f) nf))]) rfl (fun H locs hP hD hS => ?_)
  refine b_if_ne (tgt := 16) hx hb d_B_entailed_5 (by decide) (fun c_5 => ?_) (fun c_5 => ?_)
  · refine lv_aload_n hx hb d_B_entailed_16 rfl (lv_at hl 0 rfl) ?_
    refine fn_V (ws' := (bsW ad cL cI nv nb nt nf na lv nm vw vp tw ab am w)) (w1 := (bsW ad cL cI nv nb nt nf na lv nm vw vp tw ab am w)) (wc := (bsW ad cL cI nv nb nt nf na lv nm vw vp tw ab am w)) (wr := []) ⟨hx, hb, hml, hown, hts⟩ (c_B_hasModel l D ad cL cI nv nb nt nf na lv nm vw vp tw ab am w hok ) ⟨callB_of 0 hts (gW wd_98) rfl rfl rfl (hts _ wd_1) (hts _ wd_95) hd_B_hasModel ⟨Nat.le_of_ble_eq_true rfl, Nat.le_of_ble_eq_true rfl⟩, hts _ wd_97, hts _ wd_p0⟩ XT_ok (fun _ _ _ => trivial) hK hP hD hS hA 0 0 rfl rfl rfl [0, 1] [0, 1, 2, 3, 4, 5, 6, 7, 8] [] [0, 1, 2, 3, 4, 5, 6, 7, 8] rfl rfl rfl rfl rfl (by decide) rfl rfl rfl hl.1 rfl (Nat.le_of_ble_eq_true rfl) d_B_entailed_17 ⟨Nat.zero_le _, Nat.zero_le _⟩ (st1 := [.int (bI (!pNone w (250 + lv) (250 + lv)))]) rfl (fun H locs hP hD hS => ?_)
    refine b_if_ne (tgt := 31) hx hb d_B_entailed_20 (by decide) (fun c_20 => ?_) (fun c_20 => ?_)
    · refine lv_aload_n hx hb d_B_entailed_31 rfl (lv_at hl 0 rfl) ?_
      refine va_get (D := D) (ci := 0) (v := .ref (ad 2)) (C := R_B) (T := F_B) (N := 14) hx hb hts in_B hown hK hP 0 rfl rfl 0 (by decide) (hts _ wd_47) (fun _ h9 => h9) rfl d_B_entailed_32 ?_
      refine lv_aload_n hx hb d_B_entailed_35 rfl (lv_at hl 0 rfl) ?_
      refine fn_V (ws' := (bsW ad cL cI nv nb nt nf na lv nm vw vp tw ab am w)) (w1 := (bsW ad cL cI nv nb nt nf na lv nm vw vp tw ab am w)) (wc := (bsW ad cL cI nv nb nt nf na lv nm vw vp tw ab am w)) (wr := []) ⟨hx, hb, hml, hown, hts⟩ (c_B_modelRow l D ad cL cI nv nb nt nf na lv nm vw vp tw ab am w hok ) ⟨callB_of 0 hts (gW wd_102) rfl rfl rfl (hts _ wd_1) (hts _ wd_99) hd_B_modelRow ⟨Nat.le_of_ble_eq_true rfl, Nat.le_of_ble_eq_true rfl⟩, hts _ wd_101, hts _ wd_p1⟩ XT_ok (fun _ _ _ => trivial) hK hP hD hS hA 0 0 rfl rfl rfl [0, 1] [0, 1, 2, 3, 4, 5, 6, 7, 8] [] [0, 1, 2, 3, 4, 5, 6, 7, 8] rfl rfl rfl rfl rfl (by decide) rfl rfl rfl hl.1 rfl (Nat.le_of_ble_eq_true rfl) d_B_entailed_36 ⟨Nat.zero_le _, Nat.zero_le _⟩ (st1 := [.int (nI (250 + lv)), .ref (ad 2)]) rfl (fun H locs hP hD hS => ?_)
      refine lv_iload_n hx hb d_B_entailed_39 rfl (lv_at hl 1 rfl) ?_
      refine fn_V (ws' := (bsW ad cL cI nv nb nt nf na lv nm vw vp tw ab am w)) (w1 := (setsW (ad 2) (ad 3) cL w)) (wc := (setsW (ad 2) (ad 3) cL w)) (wr := [(ad 0, .inr (0, [.ref (ad 2), .ref (ad 1), .ref (ad 4), .ref (ad 5), .int (nI nv), .int (nI nb), .ref (ad 6), .int (nI nt), .int (nI nf), .ref (ad 7), .int (nI na), .int (nI lv), .ref (ad 8), .int (nI nm)])), (ad 1, .inr (2, [.ref (ad 2)])), (ad 4, .inl (cI, 6, .inl (fun j => nI (vw j)))), (ad 5, .inl (cI, 6, .inl (fun j => nI (vp j)))), (ad 6, .inl (cI, 50, .inl (fun j => nI (tw j)))), (ad 7, .inl (cI, 6, .inl (fun j => nI (ab j)))), (ad 8, .inl (cI, 8, .inl (fun j => nI (am j))))]) ⟨hx, hb, hml, hown, hts⟩ (c_S_isWithin l D (ad 2) (ad 3) cL w (250 + lv) f (by omega) (by omega)) ⟨callB_of 2 hts (gW wd_467) rfl rfl rfl (hts _ wd_3) (hts _ wd_464) hd_S_isWithin ⟨Nat.le_of_ble_eq_true rfl, Nat.le_of_ble_eq_true rfl⟩, hts _ wd_465, hts _ wd_466⟩ XT_ok (fun _ _ _ => trivial) hK hP hD hS hA 2 1 rfl rfl rfl [0] [2, 3] [0, 1, 4, 5, 6, 7, 8] [0, 1, 7, 8, 2, 3, 4, 5, 6] rfl rfl rfl rfl rfl (by decide) rfl rfl rfl hl.1 rfl (Nat.le_of_ble_eq_true rfl) d_B_entailed_40 ⟨Nat.zero_le _, Nat.zero_le _⟩ (st1 := [.int (bI (pWithin w (250 + lv) f))]) rfl (fun H locs hP hD hS => ?_)
      refine b_if_eq (tgt := 48) hx hb d_B_entailed_43 (by decide) (fun c_43 => ?_) (fun c_43 => ?_)
      · refine lv_aload_n hx hb d_B_entailed_48 rfl (lv_at hl 0 rfl) ?_
        refine va_get (D := D) (ci := 0) (v := .ref (ad 2)) (C := R_B) (T := F_B) (N := 14) hx hb hts in_B hown hK hP 0 rfl rfl 0 (by decide) (hts _ wd_47) (fun _ h9 => h9) rfl d_B_entailed_49 ?_
        refine lv_aload_n hx hb d_B_entailed_52 rfl (lv_at hl 0 rfl) ?_
        refine fn_V (ws' := (bsW ad cL cI nv nb nt nf na lv nm vw vp tw ab am w)) (w1 := (bsW ad cL cI nv nb nt nf na lv nm vw vp tw ab am w)) (wc := (bsW ad cL cI nv nb nt nf na lv nm vw vp tw ab am w)) (wr := []) ⟨hx, hb, hml, hown, hts⟩ (c_B_modelRow l D ad cL cI nv nb nt nf na lv nm vw vp tw ab am w hok ) ⟨callB_of 0 hts (gW wd_102) rfl rfl rfl (hts _ wd_1) (hts _ wd_99) hd_B_modelRow ⟨Nat.le_of_ble_eq_true rfl, Nat.le_of_ble_eq_true rfl⟩, hts _ wd_101, hts _ wd_p1⟩ XT_ok (fun _ _ _ => trivial) hK hP hD hS hA 0 0 rfl rfl rfl [0, 1] [0, 1, 2, 3, 4, 5, 6, 7, 8] [] [0, 1, 2, 3, 4, 5, 6, 7, 8] rfl rfl rfl rfl rfl (by decide) rfl rfl rfl hl.1 rfl (Nat.le_of_ble_eq_true rfl) d_B_entailed_53 ⟨Nat.zero_le _, Nat.zero_le _⟩ (st1 := [.int (nI (250 + lv)), .ref (ad 2)]) rfl (fun H locs hP hD hS => ?_)
        refine lv_iload_n hx hb d_B_entailed_56 rfl (lv_at hl 1 rfl) ?_
        refine fn_V (ws' := (bsW ad cL cI nv nb nt nf na lv nm vw vp tw ab am w)) (w1 := (setsW (ad 2) (ad 3) cL w)) (wc := (setsW (ad 2) (ad 3) cL w)) (wr := [(ad 0, .inr (0, [.ref (ad 2), .ref (ad 1), .ref (ad 4), .ref (ad 5), .int (nI nv), .int (nI nb), .ref (ad 6), .int (nI nt), .int (nI nf), .ref (ad 7), .int (nI na), .int (nI lv), .ref (ad 8), .int (nI nm)])), (ad 1, .inr (2, [.ref (ad 2)])), (ad 4, .inl (cI, 6, .inl (fun j => nI (vw j)))), (ad 5, .inl (cI, 6, .inl (fun j => nI (vp j)))), (ad 6, .inl (cI, 50, .inl (fun j => nI (tw j)))), (ad 7, .inl (cI, 6, .inl (fun j => nI (ab j)))), (ad 8, .inl (cI, 8, .inl (fun j => nI (am j))))]) ⟨hx, hb, hml, hown, hts⟩ (c_S_meets l D (ad 2) (ad 3) cL w (250 + lv) f (by omega) (by omega)) ⟨callB_of 2 hts (gW wd_471) rfl rfl rfl (hts _ wd_3) (hts _ wd_468) hd_S_meets ⟨Nat.le_of_ble_eq_true rfl, Nat.le_of_ble_eq_true rfl⟩, hts _ wd_469, hts _ wd_470⟩ XT_ok (fun _ _ _ => trivial) hK hP hD hS hA 2 1 rfl rfl rfl [0] [2, 3] [0, 1, 4, 5, 6, 7, 8] [0, 1, 7, 8, 2, 3, 4, 5, 6] rfl rfl rfl rfl rfl (by decide) rfl rfl rfl hl.1 rfl (Nat.le_of_ble_eq_true rfl) d_B_entailed_57 ⟨Nat.zero_le _, Nat.zero_le _⟩ (st1 := [.int (bI (!pNone w (250 + lv) f))]) rfl (fun H locs hP hD hS => ?_)
        refine b_if_eq (tgt := 67) hx hb d_B_entailed_60 (by decide) (fun c_60 => ?_) (fun c_60 => ?_)
        · refine lv_iconst (v := nI 0) hx hb d_B_entailed_67 (by decide) ?_
          exact fn_iret hx hb hr hlocks hAe hK hP hD hS (by rw [if_neg (by rw [c_43]; decide), if_neg (by rw [c_60]; decide)]) d_B_entailed_68
        · refine lv_iconst (v := nI 2) hx hb d_B_entailed_63 (by decide) ?_
          refine lv_goto (tgt := 68) hx hb d_B_entailed_64 (by decide) ?_
          exact fn_iret hx hb hr hlocks hAe hK hP hD hS (by rw [if_neg (by rw [c_43]; decide), if_pos c_60]) d_B_entailed_68
      · refine lv_iconst (v := nI 1) hx hb d_B_entailed_46 (by decide) ?_
        exact fn_iret hx hb hr hlocks hAe hK hP hD hS (by rw [if_pos c_43]) d_B_entailed_47
    · exact absurd hm (by rw [c_20]; decide)
  · exact absurd (hasB_I (n := nf) hf (by omega)) (by rw [c_5]; decide)
set_option maxHeartbeats 4000000 in
set_option maxRecDepth 100000 in
theorem c_B_fixed (l : Launch) (D : va_G) (ad : Nat → Nat) (cL cI : ClassId) (nv nb nt nf na lv nm : Nat) (vw vp tw ab am : Nat → Nat) (w : Nat → Int64) (hok : Bok nv nb nt nf na lv nm vw vp tw ab am) (n0 t0 : Nat) (u : ∀ i, i < 9 → n0 ≤ ad i) (v : Nat) (hv : v < nv) (hm : (!pNone w (250 + lv) (250 + lv)) = true) : Fn l y_B_fixed (wk y_B_fixed b_B_fixed 4 (some .int)) rm_B_fixed D cls [(cL, .long), (cI, .int)] [.ref (ad 0), .int (nI v)] (bsW ad cL cI nv nb nt nf na lv nm vw vp tw ab am w) (Zt n0 t0) (some (.int (nI (fxR (vp v) (250 + lv) w (vw v))))) (bsW ad cL cI nv nb nt nf na lv nm vw vp tw ab am (fxW (vp v) (vw v) w)) := by
  refine Fn.of (by decide) rfl (Nat.le_of_ble_eq_true rfl) ?_
  intro p e s m below meth c A ls hx hb hml hr hts0 hown hlocks hnm hP hK hD hS hA hAe hX hl
  have hts : ∀ w ∈ lw_ok, w.before _ s = true := fun w h => hts0 w (List.mem_cons_of_mem _ h)
  have hown : s.vm.findClass R_B = some m.cls := hown
  have hP : va_P D cls (bsW ad cL cI nv nb nt nf na lv nm vw vp tw ab am w) s.heap := hP
  have hl : lv_has ls 4 [(0, .ref (ad 0)), (1, .int (nI v))] := hl
  obtain ⟨o_nv, o_nb, o_nt, o_nf, o_na, o_lv, o_nm, o_vw, o_tw, o_am, o_ab⟩ := id hok
  have hAn : ∀ q, A q → n0 ≤ q := fun q h => by rw [hAe] at h; exact Zt_AB hX u h
  have ov := o_vw v hv
  have u2 := u 2 (by decide)
  have u3 := u 3 (by decide)
  refine lv_aload_n hx hb d_B_fixed_0 rfl (lv_at hl 0 rfl) ?_
  refine lv_iload_n hx hb d_B_fixed_1 rfl (lv_at hl 1 rfl) ?_
  refine fn_V (ws' := (bsW ad cL cI nv nb nt nf na lv nm vw vp tw ab am w)) (w1 := (bsW ad cL cI nv nb nt nf na lv nm vw vp tw ab am w)) (wc := (bsW ad cL cI nv nb nt nf na lv nm vw vp tw ab am w)) (wr := []) ⟨hx, hb, hml, hown, hts⟩ (c_B_hasVariable l D ad cL cI nv nb nt nf na lv nm vw vp tw ab am w hok (nI v)) ⟨callB_of 1 hts (gW wd_240) rfl rfl rfl (hts _ wd_1) (hts _ wd_237) hd_B_hasVariable ⟨Nat.le_of_ble_eq_true rfl, Nat.le_of_ble_eq_true rfl⟩, hts _ wd_239, hts _ wd_p7⟩ XT_ok (fun _ _ _ => trivial) hK hP hD hS hA 0 0 rfl rfl rfl [0, 1] [0, 1, 2, 3, 4, 5, 6, 7, 8] [] [0, 1, 2, 3, 4, 5, 6, 7, 8] rfl rfl rfl rfl rfl (by decide) rfl rfl rfl hl.1 rfl (Nat.le_of_ble_eq_true rfl) d_B_fixed_2 ⟨Nat.zero_le _, Nat.zero_le _⟩ (st1 := [.int (bI (hasB (nI v) nv))]) rfl (fun H locs hP hD hS => ?_)
  refine b_if_ne (tgt := 16) hx hb d_B_fixed_5 (by decide) (fun c_5 => ?_) (fun c_5 => ?_)
  · refine lv_aload_n hx hb d_B_fixed_16 rfl (lv_at hl 0 rfl) ?_
    refine fn_V (ws' := (bsW ad cL cI nv nb nt nf na lv nm vw vp tw ab am w)) (w1 := (bsW ad cL cI nv nb nt nf na lv nm vw vp tw ab am w)) (wc := (bsW ad cL cI nv nb nt nf na lv nm vw vp tw ab am w)) (wr := []) ⟨hx, hb, hml, hown, hts⟩ (c_B_hasModel l D ad cL cI nv nb nt nf na lv nm vw vp tw ab am w hok ) ⟨callB_of 0 hts (gW wd_98) rfl rfl rfl (hts _ wd_1) (hts _ wd_95) hd_B_hasModel ⟨Nat.le_of_ble_eq_true rfl, Nat.le_of_ble_eq_true rfl⟩, hts _ wd_97, hts _ wd_p0⟩ XT_ok (fun _ _ _ => trivial) hK hP hD hS hA 0 0 rfl rfl rfl [0, 1] [0, 1, 2, 3, 4, 5, 6, 7, 8] [] [0, 1, 2, 3, 4, 5, 6, 7, 8] rfl rfl rfl rfl rfl (by decide) rfl rfl rfl hl.1 rfl (Nat.le_of_ble_eq_true rfl) d_B_fixed_17 ⟨Nat.zero_le _, Nat.zero_le _⟩ (st1 := [.int (bI (!pNone w (250 + lv) (250 + lv)))]) rfl (fun H locs hP hD hS => ?_)
    refine b_if_ne (tgt := 31) hx hb d_B_fixed_20 (by decide) (fun c_20 => ?_) (fun c_20 => ?_)
    · refine lv_iconst (v := nI 0) hx hb d_B_fixed_31 (by decide) ?_
      refine lv_istore_n (lv' := [(2, .int (nI 0)), (0, .ref (ad 0)), (1, .int (nI v))]) hx hb d_B_fixed_32 rfl hl (by decide) rfl (fun ls hl => ?_)
      refine lv_iconst (v := nI 0) hx hb d_B_fixed_33 (by decide) ?_
      refine lv_istore_n (lv' := [(3, .int (nI 0)), (2, .int (nI 0)), (0, .ref (ad 0)), (1, .int (nI v))]) hx hb d_B_fixed_34 rfl hl (by decide) rfl (fun ls hl => ?_)
      refine w_loop 35 [] (vw v) (fun i H locs ls => va_P D cls (bsW ad cL cI nv nb nt nf na lv nm vw vp tw ab am (fxW (vp v) i w)) H ∧ va_D A (bsW ad cL cI nv nb nt nf na lv nm vw vp tw ab am (fxW (vp v) i w)) ∧ va_S A s.heap H locs ∧ lv_has ls 4 [(3, .int (nI i)), (2, .int (nI (fxR (vp v) (250 + lv) w i))), (0, .ref (ad 0)), (1, .int (nI v))]) ?_ 0 (Nat.zero_le _) _ _ ls ⟨hP, hD, hS, lv_sub hl [0, 1, 2, 3] rfl⟩
      intro i hi ih H locs ls ⟨hP, hD, hS, hl⟩
      refine lv_iload_n hx hb d_B_fixed_35 rfl (lv_at hl 0 rfl) ?_
      refine lv_aload_n hx hb d_B_fixed_36 rfl (lv_at hl 2 rfl) ?_
      refine va_get (D := D) (ci := 0) (v := .ref (ad 4)) (C := R_B) (T := F_B) (N := 14) hx hb hts in_B hown hK hP 0 rfl rfl 2 (by decide) (hts _ wd_49) (fun _ h9 => h9) rfl d_B_fixed_37 ?_
      refine lv_iload_n hx hb d_B_fixed_40 rfl (lv_at hl 3 rfl) ?_
      refine n_iald hx hb hK hP 4 1 rfl rfl (i := v) (by omega) (by omega) d_B_fixed_41 ?_
      refine z_icmp_ge (tgt := 109) hx hb (nI_toInt (by omega)) (nI_toInt (by omega)) d_B_fixed_42 (by decide) (fun c_42 => ?_) (fun c_42 => ?_)
      · obtain he : vw v = i := by omega
        rw [← he] at hP hD
        refine lv_iload_n hx hb d_B_fixed_109 rfl (lv_at hl 1 rfl) ?_
        exact fn_iret hx hb hr hlocks hAe hK hP hD hS (by rw [he]) d_B_fixed_110
      · refine lv_aload_n hx hb d_B_fixed_45 rfl (lv_at hl 2 rfl) ?_
        refine va_get (D := D) (ci := 0) (v := .ref (ad 2)) (C := R_B) (T := F_B) (N := 14) hx hb hts in_B hown hK hP 0 rfl rfl 0 (by decide) (hts _ wd_47) (fun _ h9 => h9) rfl d_B_fixed_46 ?_
        refine lv_sipush (v := nI 256) hx hb d_B_fixed_49 (by decide) ?_
        refine lv_aload_n hx hb d_B_fixed_52 rfl (lv_at hl 2 rfl) ?_
        refine va_get (D := D) (ci := 0) (v := .ref (ad 5)) (C := R_B) (T := F_B) (N := 14) hx hb hts in_B hown hK hP 0 rfl rfl 3 (by decide) (hts _ wd_50) (fun _ h9 => h9) rfl d_B_fixed_53 ?_
        refine lv_iload_n hx hb d_B_fixed_56 rfl (lv_at hl 3 rfl) ?_
        refine n_iald hx hb hK hP 5 1 rfl rfl (i := v) (by omega) (by omega) d_B_fixed_57 ?_
        refine lv_iload_n hx hb d_B_fixed_58 rfl (lv_at hl 0 rfl) ?_
        refine n_add hx hb d_B_fixed_59 ?_
        refine fn_V (ws' := (bsW ad cL cI nv nb nt nf na lv nm vw vp tw ab am (oPlace 256 ((vp v) + i) (fxW (vp v) i w)))) (w1 := (setsW (ad 2) (ad 3) cL (oPlace 256 ((vp v) + i) (fxW (vp v) i w)))) (wc := (setsW (ad 2) (ad 3) cL (fxW (vp v) i w))) (wr := [(ad 0, .inr (0, [.ref (ad 2), .ref (ad 1), .ref (ad 4), .ref (ad 5), .int (nI nv), .int (nI nb), .ref (ad 6), .int (nI nt), .int (nI nf), .ref (ad 7), .int (nI na), .int (nI lv), .ref (ad 8), .int (nI nm)])), (ad 1, .inr (2, [.ref (ad 2)])), (ad 4, .inl (cI, 6, .inl (fun j => nI (vw j)))), (ad 5, .inl (cI, 6, .inl (fun j => nI (vp j)))), (ad 6, .inl (cI, 50, .inl (fun j => nI (tw j)))), (ad 7, .inl (cI, 6, .inl (fun j => nI (ab j)))), (ad 8, .inl (cI, 8, .inl (fun j => nI (am j))))]) ⟨hx, hb, hml, hown, hts⟩ (c_S_fillByPlace l D n0 t0 (ad 2) (ad 3) cL (fxW (vp v) i w) 256 ((vp v) + i) (by omega) (by omega) (by omega) (by omega)) ⟨callB_of 2 hts (gW wd_279) rfl rfl rfl (hts _ wd_3) (hts _ wd_276) hd_S_fillByPlace ⟨Nat.le_of_ble_eq_true rfl, Nat.le_of_ble_eq_true rfl⟩, hts _ wd_277, hts _ wd_278⟩ Zt_ok (Zt_kept hX hS hAn) hK hP hD hS hA 2 1 rfl rfl rfl [0] [2, 3] [0, 1, 4, 5, 6, 7, 8] [0, 1, 7, 8, 2, 3, 4, 5, 6] rfl rfl rfl rfl rfl (by decide) rfl rfl rfl hl.1 rfl (Nat.le_of_ble_eq_true rfl) d_B_fixed_60 ⟨Nat.zero_le _, Nat.zero_le _⟩ (st1 := []) rfl (fun H locs hP hD hS => ?_)
        refine lv_aload_n hx hb d_B_fixed_63 rfl (lv_at hl 2 rfl) ?_
        refine va_get (D := D) (ci := 0) (v := .ref (ad 2)) (C := R_B) (T := F_B) (N := 14) hx hb hts in_B hown hK hP 0 rfl rfl 0 (by decide) (hts _ wd_47) (fun _ h9 => h9) rfl d_B_fixed_64 ?_
        refine lv_aload_n hx hb d_B_fixed_67 rfl (lv_at hl 2 rfl) ?_
        refine fn_V (ws' := (bsW ad cL cI nv nb nt nf na lv nm vw vp tw ab am (oPlace 256 ((vp v) + i) (fxW (vp v) i w)))) (w1 := (bsW ad cL cI nv nb nt nf na lv nm vw vp tw ab am (oPlace 256 ((vp v) + i) (fxW (vp v) i w)))) (wc := (bsW ad cL cI nv nb nt nf na lv nm vw vp tw ab am (oPlace 256 ((vp v) + i) (fxW (vp v) i w)))) (wr := []) ⟨hx, hb, hml, hown, hts⟩ (c_B_modelRow l D ad cL cI nv nb nt nf na lv nm vw vp tw ab am (oPlace 256 ((vp v) + i) (fxW (vp v) i w)) hok ) ⟨callB_of 0 hts (gW wd_102) rfl rfl rfl (hts _ wd_1) (hts _ wd_99) hd_B_modelRow ⟨Nat.le_of_ble_eq_true rfl, Nat.le_of_ble_eq_true rfl⟩, hts _ wd_101, hts _ wd_p1⟩ XT_ok (fun _ _ _ => trivial) hK hP hD hS hA 0 0 rfl rfl rfl [0, 1] [0, 1, 2, 3, 4, 5, 6, 7, 8] [] [0, 1, 2, 3, 4, 5, 6, 7, 8] rfl rfl rfl rfl rfl (by decide) rfl rfl rfl hl.1 rfl (Nat.le_of_ble_eq_true rfl) d_B_fixed_68 ⟨Nat.zero_le _, Nat.zero_le _⟩ (st1 := [.int (nI (250 + lv)), .ref (ad 2)]) rfl (fun H locs hP hD hS => ?_)
        refine lv_sipush (v := nI 256) hx hb d_B_fixed_71 (by decide) ?_
        refine fn_V (ws' := (bsW ad cL cI nv nb nt nf na lv nm vw vp tw ab am (oPlace 256 ((vp v) + i) (fxW (vp v) i w)))) (w1 := (setsW (ad 2) (ad 3) cL (oPlace 256 ((vp v) + i) (fxW (vp v) i w)))) (wc := (setsW (ad 2) (ad 3) cL (oPlace 256 ((vp v) + i) (fxW (vp v) i w)))) (wr := [(ad 0, .inr (0, [.ref (ad 2), .ref (ad 1), .ref (ad 4), .ref (ad 5), .int (nI nv), .int (nI nb), .ref (ad 6), .int (nI nt), .int (nI nf), .ref (ad 7), .int (nI na), .int (nI lv), .ref (ad 8), .int (nI nm)])), (ad 1, .inr (2, [.ref (ad 2)])), (ad 4, .inl (cI, 6, .inl (fun j => nI (vw j)))), (ad 5, .inl (cI, 6, .inl (fun j => nI (vp j)))), (ad 6, .inl (cI, 50, .inl (fun j => nI (tw j)))), (ad 7, .inl (cI, 6, .inl (fun j => nI (ab j)))), (ad 8, .inl (cI, 8, .inl (fun j => nI (am j))))]) ⟨hx, hb, hml, hown, hts⟩ (c_S_isWithin l D (ad 2) (ad 3) cL (oPlace 256 ((vp v) + i) (fxW (vp v) i w)) (250 + lv) 256 (by omega) (by omega)) ⟨callB_of 2 hts (gW wd_467) rfl rfl rfl (hts _ wd_3) (hts _ wd_464) hd_S_isWithin ⟨Nat.le_of_ble_eq_true rfl, Nat.le_of_ble_eq_true rfl⟩, hts _ wd_465, hts _ wd_466⟩ XT_ok (fun _ _ _ => trivial) hK hP hD hS hA 2 1 rfl rfl rfl [0] [2, 3] [0, 1, 4, 5, 6, 7, 8] [0, 1, 7, 8, 2, 3, 4, 5, 6] rfl rfl rfl rfl rfl (by decide) rfl rfl rfl hl.1 rfl (Nat.le_of_ble_eq_true rfl) d_B_fixed_74 ⟨Nat.zero_le _, Nat.zero_le _⟩ (st1 := [.int (bI (pWithin (oPlace 256 ((vp v) + i) (fxW (vp v) i w)) (250 + lv) 256))]) rfl (fun H locs hP hD hS => ?_)
        refine b_if_ne (tgt := 97) hx hb d_B_fixed_77 (by decide) (fun c_77 => ?_) (fun c_77 => ?_)
        · refine lv_iload_n hx hb d_B_fixed_97 rfl (lv_at hl 1 rfl) ?_
          refine lv_iconst (v := nI 1) hx hb d_B_fixed_98 (by decide) ?_
          refine lv_iload_n hx hb d_B_fixed_99 rfl (lv_at hl 0 rfl) ?_
          refine n_shl1 hx hb (by omega) d_B_fixed_100 ?_
          refine n_or hx hb d_B_fixed_101 ?_
          refine lv_istore_n (lv' := [(2, .int (nI ((fxR (vp v) (250 + lv) w i) ||| (2 ^ i)))), (3, .int (nI i)), (0, .ref (ad 0)), (1, .int (nI v))]) hx hb d_B_fixed_102 rfl hl (by decide) rfl (fun ls hl => ?_)
          refine lv_iinc (v := nI (i + 1)) (lv' := [(3, .int (nI (i + 1))), (2, .int (nI ((fxR (vp v) (250 + lv) w i) ||| (2 ^ i)))), (0, .ref (ad 0)), (1, .int (nI v))]) hx hb d_B_fixed_103 hl (k := 1) rfl (by rw [← nI_1]; rfl) (by decide) rfl (fun ls hl => ?_)
          refine lv_goto (tgt := 35) hx hb d_B_fixed_106 (by decide) ?_
          exact ih _ _ _ (by omega) ⟨hP, hD, hS, by rw [show fxR (vp v) (250 + lv) w (i + 1) = (fxR (vp v) (250 + lv) w i) ||| (2 ^ i) from if_pos (Or.inl c_77)]; exact lv_sub hl [0, 1, 2, 3] rfl⟩
        · refine lv_aload_n hx hb d_B_fixed_80 rfl (lv_at hl 2 rfl) ?_
          refine va_get (D := D) (ci := 0) (v := .ref (ad 2)) (C := R_B) (T := F_B) (N := 14) hx hb hts in_B hown hK hP 0 rfl rfl 0 (by decide) (hts _ wd_47) (fun _ h9 => h9) rfl d_B_fixed_81 ?_
          refine lv_aload_n hx hb d_B_fixed_84 rfl (lv_at hl 2 rfl) ?_
          refine fn_V (ws' := (bsW ad cL cI nv nb nt nf na lv nm vw vp tw ab am (oPlace 256 ((vp v) + i) (fxW (vp v) i w)))) (w1 := (bsW ad cL cI nv nb nt nf na lv nm vw vp tw ab am (oPlace 256 ((vp v) + i) (fxW (vp v) i w)))) (wc := (bsW ad cL cI nv nb nt nf na lv nm vw vp tw ab am (oPlace 256 ((vp v) + i) (fxW (vp v) i w)))) (wr := []) ⟨hx, hb, hml, hown, hts⟩ (c_B_modelRow l D ad cL cI nv nb nt nf na lv nm vw vp tw ab am (oPlace 256 ((vp v) + i) (fxW (vp v) i w)) hok ) ⟨callB_of 0 hts (gW wd_102) rfl rfl rfl (hts _ wd_1) (hts _ wd_99) hd_B_modelRow ⟨Nat.le_of_ble_eq_true rfl, Nat.le_of_ble_eq_true rfl⟩, hts _ wd_101, hts _ wd_p1⟩ XT_ok (fun _ _ _ => trivial) hK hP hD hS hA 0 0 rfl rfl rfl [0, 1] [0, 1, 2, 3, 4, 5, 6, 7, 8] [] [0, 1, 2, 3, 4, 5, 6, 7, 8] rfl rfl rfl rfl rfl (by decide) rfl rfl rfl hl.1 rfl (Nat.le_of_ble_eq_true rfl) d_B_fixed_85 ⟨Nat.zero_le _, Nat.zero_le _⟩ (st1 := [.int (nI (250 + lv)), .ref (ad 2)]) rfl (fun H locs hP hD hS => ?_)
          refine lv_sipush (v := nI 256) hx hb d_B_fixed_88 (by decide) ?_
          refine fn_V (ws' := (bsW ad cL cI nv nb nt nf na lv nm vw vp tw ab am (oPlace 256 ((vp v) + i) (fxW (vp v) i w)))) (w1 := (setsW (ad 2) (ad 3) cL (oPlace 256 ((vp v) + i) (fxW (vp v) i w)))) (wc := (setsW (ad 2) (ad 3) cL (oPlace 256 ((vp v) + i) (fxW (vp v) i w)))) (wr := [(ad 0, .inr (0, [.ref (ad 2), .ref (ad 1), .ref (ad 4), .ref (ad 5), .int (nI nv), .int (nI nb), .ref (ad 6), .int (nI nt), .int (nI nf), .ref (ad 7), .int (nI na), .int (nI lv), .ref (ad 8), .int (nI nm)])), (ad 1, .inr (2, [.ref (ad 2)])), (ad 4, .inl (cI, 6, .inl (fun j => nI (vw j)))), (ad 5, .inl (cI, 6, .inl (fun j => nI (vp j)))), (ad 6, .inl (cI, 50, .inl (fun j => nI (tw j)))), (ad 7, .inl (cI, 6, .inl (fun j => nI (ab j)))), (ad 8, .inl (cI, 8, .inl (fun j => nI (am j))))]) ⟨hx, hb, hml, hown, hts⟩ (c_S_meets l D (ad 2) (ad 3) cL (oPlace 256 ((vp v) + i) (fxW (vp v) i w)) (250 + lv) 256 (by omega) (by omega)) ⟨callB_of 2 hts (gW wd_471) rfl rfl rfl (hts _ wd_3) (hts _ wd_468) hd_S_meets ⟨Nat.le_of_ble_eq_true rfl, Nat.le_of_ble_eq_true rfl⟩, hts _ wd_469, hts _ wd_470⟩ XT_ok (fun _ _ _ => trivial) hK hP hD hS hA 2 1 rfl rfl rfl [0] [2, 3] [0, 1, 4, 5, 6, 7, 8] [0, 1, 7, 8, 2, 3, 4, 5, 6] rfl rfl rfl rfl rfl (by decide) rfl rfl rfl hl.1 rfl (Nat.le_of_ble_eq_true rfl) d_B_fixed_91 ⟨Nat.zero_le _, Nat.zero_le _⟩ (st1 := [.int (bI (!pNone (oPlace 256 ((vp v) + i) (fxW (vp v) i w)) (250 + lv) 256))]) rfl (fun H locs hP hD hS => ?_)
          refine b_if_ne (tgt := 103) hx hb d_B_fixed_94 (by decide) (fun c_94 => ?_) (fun c_94 => ?_)
          · refine lv_iinc (v := nI (i + 1)) (lv' := [(3, .int (nI (i + 1))), (2, .int (nI (fxR (vp v) (250 + lv) w i))), (0, .ref (ad 0)), (1, .int (nI v))]) hx hb d_B_fixed_103 hl (k := 0) rfl (by rw [← nI_1]; rfl) (by decide) rfl (fun ls hl => ?_)
            refine lv_goto (tgt := 35) hx hb d_B_fixed_106 (by decide) ?_
            exact ih _ _ _ (by omega) ⟨hP, hD, hS, by rw [show fxR (vp v) (250 + lv) w (i + 1) = fxR (vp v) (250 + lv) w i from if_neg (fun q => q.elim (fun q => absurd (c_77.symm.trans q) (by decide)) (fun q => absurd (c_94.symm.trans q) (by decide)))]; exact lv_sub hl [0, 1, 2, 3] rfl⟩
          · refine lv_iload_n hx hb d_B_fixed_97 rfl (lv_at hl 1 rfl) ?_
            refine lv_iconst (v := nI 1) hx hb d_B_fixed_98 (by decide) ?_
            refine lv_iload_n hx hb d_B_fixed_99 rfl (lv_at hl 0 rfl) ?_
            refine n_shl1 hx hb (by omega) d_B_fixed_100 ?_
            refine n_or hx hb d_B_fixed_101 ?_
            refine lv_istore_n (lv' := [(2, .int (nI ((fxR (vp v) (250 + lv) w i) ||| (2 ^ i)))), (3, .int (nI i)), (0, .ref (ad 0)), (1, .int (nI v))]) hx hb d_B_fixed_102 rfl hl (by decide) rfl (fun ls hl => ?_)
            refine lv_iinc (v := nI (i + 1)) (lv' := [(3, .int (nI (i + 1))), (2, .int (nI ((fxR (vp v) (250 + lv) w i) ||| (2 ^ i)))), (0, .ref (ad 0)), (1, .int (nI v))]) hx hb d_B_fixed_103 hl (k := 1) rfl (by rw [← nI_1]; rfl) (by decide) rfl (fun ls hl => ?_)
            refine lv_goto (tgt := 35) hx hb d_B_fixed_106 (by decide) ?_
            exact ih _ _ _ (by omega) ⟨hP, hD, hS, by rw [show fxR (vp v) (250 + lv) w (i + 1) = (fxR (vp v) (250 + lv) w i) ||| (2 ^ i) from if_pos (Or.inr c_94)]; exact lv_sub hl [0, 1, 2, 3] rfl⟩
    · exact absurd hm (by rw [c_20]; decide)
  · exact absurd (hasB_I (n := nv) hv (by omega)) (by rw [c_5]; decide)
set_option maxHeartbeats 4000000 in
set_option maxRecDepth 100000 in
theorem c_B_assume (l : Launch) (D : va_G) (ad : Nat → Nat) (cL cI : ClassId) (nv nb nt nf na lv nm : Nat) (vw vp tw ab am : Nat → Nat) (w : Nat → Int64) (hok : Bok nv nb nt nf na lv nm vw vp tw ab am) (f : Nat) (hf : f < nf) (hn : nm < 8) : Fn l y_B_assume (wk y_B_assume b_B_assume 2 (some .int)) rm_B_assume D cls [(cL, .long), (cI, .int)] [.ref (ad 0), .int (nI f)] (bsW ad cL cI nv nb nt nf na lv nm vw vp tw ab am w) XT (some (.int (nI (nm + 1)))) (bsW ad cL cI nv nb nt nf na lv (nm + 1) vw vp tw ab (updN am nm f) w) := by
  refine Fn.of (by decide) rfl (Nat.le_of_ble_eq_true rfl) ?_
  intro p e s m below meth c A ls hx hb hml hr hts0 hown hlocks hnm hP hK hD hS hA hAe hX hl
  have hts : ∀ w ∈ lw_ok, w.before _ s = true := fun w h => hts0 w (List.mem_cons_of_mem _ h)
  have hown : s.vm.findClass R_B = some m.cls := hown
  have hP : va_P D cls (bsW ad cL cI nv nb nt nf na lv nm vw vp tw ab am w) s.heap := hP
  have hl : lv_has ls 2 [(0, .ref (ad 0)), (1, .int (nI f))] := hl
  obtain ⟨o_nv, o_nb, o_nt, o_nf, o_na, o_lv, o_nm, o_vw, o_tw, o_am, o_ab⟩ := id hok
  refine lv_aload_n hx hb d_B_assume_0 rfl (lv_at hl 0 rfl) ?_
  refine lv_iload_n hx hb d_B_assume_1 rfl (lv_at hl 1 rfl) ?_
  refine fn_V (ws' := (bsW ad cL cI nv nb nt nf na lv nm vw vp tw ab am w)) (w1 := (bsW ad cL cI nv nb nt nf na lv nm vw vp tw ab am w)) (wc := (bsW ad cL cI nv nb nt nf na lv nm vw vp tw ab am w)) (wr := []) ⟨hx, hb, hml, hown, hts⟩ (c_B_hasFormula l D ad cL cI nv nb nt nf na lv nm vw vp tw ab am w hok (nI f)) ⟨callB_of 1 hts (gW wd_256) rfl rfl rfl (hts _ wd_1) (hts _ wd_253) hd_B_hasFormula ⟨Nat.le_of_ble_eq_true rfl, Nat.le_of_ble_eq_true rfl⟩, hts _ wd_255, hts _ wd_p11⟩ XT_ok (fun _ _ _ => trivial) hK hP hD hS hA 0 0 rfl rfl rfl [0, 1] [0, 1, 2, 3, 4, 5, 6, 7, 8] [] [0, 1, 2, 3, 4, 5, 6, 7, 8] rfl rfl rfl rfl rfl (by decide) rfl rfl rfl hl.1 rfl (Nat.le_of_ble_eq_true rfl) d_B_assume_2 ⟨Nat.zero_le _, Nat.zero_le _⟩ (st1 := [.int (bI (hasB (nI f) nf))]) rfl (fun H locs hP hD hS => ?_)
  refine b_if_ne (tgt := 16) hx hb d_B_assume_5 (by decide) (fun c_5 => ?_) (fun c_5 => ?_)
  · refine lv_aload_n hx hb d_B_assume_16 rfl (lv_at hl 0 rfl) ?_
    refine va_get (D := D) (ci := 0) (v := .int (nI nm)) (C := R_B) (T := F_B) (N := 14) hx hb hts in_B hown hK hP 0 rfl rfl 13 (by decide) (hts _ wd_60) (fun _ h9 => h9) rfl d_B_assume_17 ?_
    refine lv_bipush (v := nI 8) hx hb d_B_assume_20 (by decide) ?_
    refine z_icmp_lt (tgt := 33) hx hb (nI_toInt (by omega)) (nI_toInt (by omega)) d_B_assume_22 (by decide) (fun c_22 => ?_) (fun c_22 => ?_)
    · refine lv_aload_n hx hb d_B_assume_33 rfl (lv_at hl 0 rfl) ?_
      refine va_get (D := D) (ci := 0) (v := .ref (ad 8)) (C := R_B) (T := F_B) (N := 14) hx hb hts in_B hown hK hP 0 rfl rfl 12 (by decide) (hts _ wd_59) (fun _ h9 => h9) rfl d_B_assume_34 ?_
      refine lv_aload_n hx hb d_B_assume_37 rfl (lv_at hl 0 rfl) ?_
      refine va_get (D := D) (ci := 0) (v := .int (nI nm)) (C := R_B) (T := F_B) (N := 14) hx hb hts in_B hown hK hP 0 rfl rfl 13 (by decide) (hts _ wd_60) (fun _ h9 => h9) rfl d_B_assume_38 ?_
      refine lv_iload_n hx hb d_B_assume_41 rfl (lv_at hl 1 rfl) ?_
      refine n_iast hx hb hK hP hD hS 8 1 rfl rfl (i := nm) (by omega) (by omega) (updN_I _ _ _) d_B_assume_42 (ws' := (bsW ad cL cI nv nb nt nf na lv nm vw vp tw ab (updN am nm f) w)) rfl (fun H locs hP hD hS => ?_)
      refine lv_aload_n hx hb d_B_assume_43 rfl (lv_at hl 0 rfl) ?_
      refine lv_dup hx hb d_B_assume_44 rfl ?_
      refine va_get (D := D) (ci := 0) (v := .int (nI nm)) (C := R_B) (T := F_B) (N := 14) hx hb hts in_B hown hK hP 0 rfl rfl 13 (by decide) (hts _ wd_60) (fun _ h9 => h9) rfl d_B_assume_45 ?_
      refine lv_iconst (v := nI 1) hx hb d_B_assume_48 (by decide) ?_
      refine n_add hx hb d_B_assume_49 ?_
      refine va_put (D := D) (ci := 0) (v := .int (nI (nm + 1))) (ty := .int) (C := R_B) (T := F_B) (N := 14) hx hb hts in_B t_B tok_B nm_B hown hK hP hD hS 0 rfl rfl 13 (by decide) (hts _ wd_60) (fun _ h9 => h9) rfl (by decide +kernel) rfl rfl (Nat.le_of_ble_eq_true rfl) d_B_assume_50 (fun H locs hP hD hS => ?_)
      have hP : va_P D cls (bsW ad cL cI nv nb nt nf na lv (nm + 1) vw vp tw ab (updN am nm f) w) H := hP
      have hD : va_D A (bsW ad cL cI nv nb nt nf na lv (nm + 1) vw vp tw ab (updN am nm f) w) := hD
      refine lv_aload_n hx hb d_B_assume_53 rfl (lv_at hl 0 rfl) ?_
      refine va_get (D := D) (ci := 0) (v := .int (nI (nm + 1))) (C := R_B) (T := F_B) (N := 14) hx hb hts in_B hown hK hP 0 rfl rfl 13 (by decide) (hts _ wd_60) (fun _ h9 => h9) rfl d_B_assume_54 ?_
      exact fn_iret hx hb hr hlocks hAe hK hP hD hS rfl d_B_assume_57
    · exact absurd c_22 (by omega)
  · exact absurd (hasB_I (n := nf) hf (by omega)) (by rw [c_5]; decide)
set_option maxHeartbeats 4000000 in
set_option maxRecDepth 100000 in
theorem c_B_clear (l : Launch) (D : va_G) (ad : Nat → Nat) (cL cI : ClassId) (nv nb nt nf na lv nm : Nat) (vw vp tw ab am : Nat → Nat) (w : Nat → Int64) (hok : Bok nv nb nt nf na lv nm vw vp tw ab am)  : Fn l y_B_clear (wk y_B_clear b_B_clear 2 (some .int)) rm_B_clear D cls [(cL, .long), (cI, .int)] [.ref (ad 0)] (bsW ad cL cI nv nb nt nf na lv nm vw vp tw ab am w) XT (some (.int (nI nm))) (bsW ad cL cI nv nb nt nf na lv 0 vw vp tw ab am w) := by
  refine Fn.of (by decide) rfl (Nat.le_of_ble_eq_true rfl) ?_
  intro p e s m below meth c A ls hx hb hml hr hts0 hown hlocks hnm hP hK hD hS hA hAe hX hl
  have hts : ∀ w ∈ lw_ok, w.before _ s = true := fun w h => hts0 w (List.mem_cons_of_mem _ h)
  have hown : s.vm.findClass R_B = some m.cls := hown
  have hP : va_P D cls (bsW ad cL cI nv nb nt nf na lv nm vw vp tw ab am w) s.heap := hP
  have hl : lv_has ls 2 [(0, .ref (ad 0))] := hl
  obtain ⟨o_nv, o_nb, o_nt, o_nf, o_na, o_lv, o_nm, o_vw, o_tw, o_am, o_ab⟩ := id hok
  refine lv_aload_n hx hb d_B_clear_0 rfl (lv_at hl 0 rfl) ?_
  refine va_get (D := D) (ci := 0) (v := .int (nI nm)) (C := R_B) (T := F_B) (N := 14) hx hb hts in_B hown hK hP 0 rfl rfl 13 (by decide) (hts _ wd_60) (fun _ h9 => h9) rfl d_B_clear_1 ?_
  refine lv_istore_n (lv' := [(1, .int (nI nm)), (0, .ref (ad 0))]) hx hb d_B_clear_4 rfl hl (by decide) rfl (fun ls hl => ?_)
  refine lv_aload_n hx hb d_B_clear_5 rfl (lv_at hl 1 rfl) ?_
  refine lv_iconst (v := nI 0) hx hb d_B_clear_6 (by decide) ?_
  refine va_put (D := D) (ci := 0) (v := .int (nI 0)) (ty := .int) (C := R_B) (T := F_B) (N := 14) hx hb hts in_B t_B tok_B nm_B hown hK hP hD hS 0 rfl rfl 13 (by decide) (hts _ wd_60) (fun _ h9 => h9) rfl (by decide +kernel) rfl rfl (Nat.le_of_ble_eq_true rfl) d_B_clear_7 (fun H locs hP hD hS => ?_)
  have hP : va_P D cls (bsW ad cL cI nv nb nt nf na lv 0 vw vp tw ab am w) H := hP
  have hD : va_D A (bsW ad cL cI nv nb nt nf na lv 0 vw vp tw ab am w) := hD
  refine lv_iload_n hx hb d_B_clear_10 rfl (lv_at hl 0 rfl) ?_
  exact fn_iret hx hb hr hlocks hAe hK hP hD hS rfl d_B_clear_11
set_option maxHeartbeats 4000000 in
set_option maxRecDepth 100000 in
theorem c_B_attempt (l : Launch) (D : va_G) (ad : Nat → Nat) (cL cI : ClassId) (nv nb nt nf na lv nm : Nat) (vw vp tw ab am : Nat → Nat) (w : Nat → Int64) (hok : Bok nv nb nt nf na lv nm vw vp tw ab am)  : Fn l y_B_attempt (wk y_B_attempt b_B_attempt 1 (some .int)) rm_B_attempt D cls [(cL, .long), (cI, .int)] [.ref (ad 0)] (bsW ad cL cI nv nb nt nf na lv nm vw vp tw ab am w) XT (some (.int (bI (pCan am lv nm (2 ^ nm - 1) w)))) (bsW ad cL cI nv nb nt nf na lv nm vw vp tw ab am (wAsm am lv nm (2 ^ nm - 1) w)) := by
  refine Fn.of (by decide) rfl (Nat.le_of_ble_eq_true rfl) ?_
  intro p e s m below meth c A ls hx hb hml hr hts0 hown hlocks hnm hP hK hD hS hA hAe hX hl
  have hts : ∀ w ∈ lw_ok, w.before _ s = true := fun w h => hts0 w (List.mem_cons_of_mem _ h)
  have hown : s.vm.findClass R_B = some m.cls := hown
  have hP : va_P D cls (bsW ad cL cI nv nb nt nf na lv nm vw vp tw ab am w) s.heap := hP
  have hl : lv_has ls 1 [(0, .ref (ad 0))] := hl
  obtain ⟨o_nv, o_nb, o_nt, o_nf, o_na, o_lv, o_nm, o_vw, o_tw, o_am, o_ab⟩ := id hok
  have o2 : 2 ^ nm ≤ 256 := Nat.pow_le_pow_right (n := 2) (by decide) o_nm
  refine lv_aload_n hx hb d_B_attempt_0 rfl (lv_at hl 0 rfl) ?_
  refine lv_aload_n hx hb d_B_attempt_1 rfl (lv_at hl 0 rfl) ?_
  refine fn_V (ws' := (bsW ad cL cI nv nb nt nf na lv nm vw vp tw ab am w)) (w1 := (bsW ad cL cI nv nb nt nf na lv nm vw vp tw ab am w)) (wc := (bsW ad cL cI nv nb nt nf na lv nm vw vp tw ab am w)) (wr := []) ⟨hx, hb, hml, hown, hts⟩ (c_B_allAssumptions l D ad cL cI nv nb nt nf na lv nm vw vp tw ab am w hok ) ⟨callB_of 0 hts (gW wd_122) rfl rfl rfl (hts _ wd_1) (hts _ wd_119) hd_B_allAssumptions ⟨Nat.le_of_ble_eq_true rfl, Nat.le_of_ble_eq_true rfl⟩, hts _ wd_121, hts _ wd_p3⟩ XT_ok (fun _ _ _ => trivial) hK hP hD hS hA 0 0 rfl rfl rfl [0, 1] [0, 1, 2, 3, 4, 5, 6, 7, 8] [] [0, 1, 2, 3, 4, 5, 6, 7, 8] rfl rfl rfl rfl rfl (by decide) rfl rfl rfl hl.1 rfl (Nat.le_of_ble_eq_true rfl) d_B_attempt_2 ⟨Nat.zero_le _, Nat.zero_le _⟩ (st1 := [.int (nI (2 ^ nm - 1)), .ref (ad 0)]) rfl (fun H locs hP hD hS => ?_)
  refine fn_V (ws' := (bsW ad cL cI nv nb nt nf na lv nm vw vp tw ab am (wAsm am lv nm (2 ^ nm - 1) w))) (w1 := (bsW ad cL cI nv nb nt nf na lv nm vw vp tw ab am (wAsm am lv nm (2 ^ nm - 1) w))) (wc := (bsW ad cL cI nv nb nt nf na lv nm vw vp tw ab am w)) (wr := []) ⟨hx, hb, hml, hown, hts⟩ (c_B_canAssume l D ad cL cI nv nb nt nf na lv nm vw vp tw ab am w hok (2 ^ nm - 1) (by omega)) ⟨callB_of 1 hts (gW wd_126) rfl rfl rfl (hts _ wd_1) (hts _ wd_123) hd_B_canAssume ⟨Nat.le_of_ble_eq_true rfl, Nat.le_of_ble_eq_true rfl⟩, hts _ wd_125, hts _ wd_p4⟩ XT_ok (fun _ _ _ => trivial) hK hP hD hS hA 0 0 rfl rfl rfl [0, 1] [0, 1, 2, 3, 4, 5, 6, 7, 8] [] [0, 1, 2, 3, 4, 5, 6, 7, 8] rfl rfl rfl rfl rfl (by decide) rfl rfl rfl hl.1 rfl (Nat.le_of_ble_eq_true rfl) d_B_attempt_5 ⟨Nat.zero_le _, Nat.zero_le _⟩ (st1 := [.int (bI (pCan am lv nm (2 ^ nm - 1) w))]) rfl (fun H locs hP hD hS => ?_)
  refine b_if_eq (tgt := 15) hx hb d_B_attempt_8 (by decide) (fun c_8 => ?_) (fun c_8 => ?_)
  · refine lv_iconst (v := nI 0) hx hb d_B_attempt_15 (by decide) ?_
    exact fn_iret hx hb hr hlocks hAe hK hP hD hS (by rw [c_8]; rfl) d_B_attempt_16
  · refine lv_iconst (v := nI 1) hx hb d_B_attempt_11 (by decide) ?_
    refine lv_goto (tgt := 16) hx hb d_B_attempt_12 (by decide) ?_
    exact fn_iret hx hb hr hlocks hAe hK hP hD hS (by rw [c_8]; rfl) d_B_attempt_16
set_option maxHeartbeats 4000000 in
set_option maxRecDepth 100000 in
theorem c_B_blame (l : Launch) (D : va_G) (ad : Nat → Nat) (cL cI : ClassId) (nv nb nt nf na lv nm : Nat) (vw vp tw ab am : Nat → Nat) (w : Nat → Int64) (hok : Bok nv nb nt nf na lv nm vw vp tw ab am) (hm : pCan am lv nm (2 ^ nm - 1) w = false) : Fn l y_B_blame (wk y_B_blame b_B_blame 4 (some .int)) rm_B_blame D cls [(cL, .long), (cI, .int)] [.ref (ad 0)] (bsW ad cL cI nv nb nt nf na lv nm vw vp tw ab am w) XT (some (.int (nI ((blS am lv nm nm (wAsm am lv nm (2 ^ nm - 1) w, 2 ^ nm - 1)).2)))) (bsW ad cL cI nv nb nt nf na lv nm vw vp tw ab am ((blS am lv nm nm (wAsm am lv nm (2 ^ nm - 1) w, 2 ^ nm - 1)).1)) := by
  refine Fn.of (by decide) rfl (Nat.le_of_ble_eq_true rfl) ?_
  intro p e s m below meth c A ls hx hb hml hr hts0 hown hlocks hnm hP hK hD hS hA hAe hX hl
  have hts : ∀ w ∈ lw_ok, w.before _ s = true := fun w h => hts0 w (List.mem_cons_of_mem _ h)
  have hown : s.vm.findClass R_B = some m.cls := hown
  have hP : va_P D cls (bsW ad cL cI nv nb nt nf na lv nm vw vp tw ab am w) s.heap := hP
  have hl : lv_has ls 4 [(0, .ref (ad 0))] := hl
  obtain ⟨o_nv, o_nb, o_nt, o_nf, o_na, o_lv, o_nm, o_vw, o_tw, o_am, o_ab⟩ := id hok
  have o2 : 2 ^ nm ≤ 256 := Nat.pow_le_pow_right (n := 2) (by decide) o_nm
  refine lv_aload_n hx hb d_B_blame_0 rfl (lv_at hl 0 rfl) ?_
  refine fn_V (ws' := (bsW ad cL cI nv nb nt nf na lv nm vw vp tw ab am w)) (w1 := (bsW ad cL cI nv nb nt nf na lv nm vw vp tw ab am w)) (wc := (bsW ad cL cI nv nb nt nf na lv nm vw vp tw ab am w)) (wr := []) ⟨hx, hb, hml, hown, hts⟩ (c_B_allAssumptions l D ad cL cI nv nb nt nf na lv nm vw vp tw ab am w hok ) ⟨callB_of 0 hts (gW wd_122) rfl rfl rfl (hts _ wd_1) (hts _ wd_119) hd_B_allAssumptions ⟨Nat.le_of_ble_eq_true rfl, Nat.le_of_ble_eq_true rfl⟩, hts _ wd_121, hts _ wd_p3⟩ XT_ok (fun _ _ _ => trivial) hK hP hD hS hA 0 0 rfl rfl rfl [0, 1] [0, 1, 2, 3, 4, 5, 6, 7, 8] [] [0, 1, 2, 3, 4, 5, 6, 7, 8] rfl rfl rfl rfl rfl (by decide) rfl rfl rfl hl.1 rfl (Nat.le_of_ble_eq_true rfl) d_B_blame_1 ⟨Nat.zero_le _, Nat.zero_le _⟩ (st1 := [.int (nI (2 ^ nm - 1))]) rfl (fun H locs hP hD hS => ?_)
  refine lv_istore_n (lv' := [(1, .int (nI (2 ^ nm - 1))), (0, .ref (ad 0))]) hx hb d_B_blame_4 rfl hl (by decide) rfl (fun ls hl => ?_)
  refine lv_aload_n hx hb d_B_blame_5 rfl (lv_at hl 1 rfl) ?_
  refine lv_iload_n hx hb d_B_blame_6 rfl (lv_at hl 0 rfl) ?_
  refine fn_V (ws' := (bsW ad cL cI nv nb nt nf na lv nm vw vp tw ab am (wAsm am lv nm (2 ^ nm - 1) w))) (w1 := (bsW ad cL cI nv nb nt nf na lv nm vw vp tw ab am (wAsm am lv nm (2 ^ nm - 1) w))) (wc := (bsW ad cL cI nv nb nt nf na lv nm vw vp tw ab am w)) (wr := []) ⟨hx, hb, hml, hown, hts⟩ (c_B_canAssume l D ad cL cI nv nb nt nf na lv nm vw vp tw ab am w hok (2 ^ nm - 1) (by omega)) ⟨callB_of 1 hts (gW wd_126) rfl rfl rfl (hts _ wd_1) (hts _ wd_123) hd_B_canAssume ⟨Nat.le_of_ble_eq_true rfl, Nat.le_of_ble_eq_true rfl⟩, hts _ wd_125, hts _ wd_p4⟩ XT_ok (fun _ _ _ => trivial) hK hP hD hS hA 0 0 rfl rfl rfl [0, 1] [0, 1, 2, 3, 4, 5, 6, 7, 8] [] [0, 1, 2, 3, 4, 5, 6, 7, 8] rfl rfl rfl rfl rfl (by decide) rfl rfl rfl hl.1 rfl (Nat.le_of_ble_eq_true rfl) d_B_blame_7 ⟨Nat.zero_le _, Nat.zero_le _⟩ (st1 := [.int (bI (pCan am lv nm (2 ^ nm - 1) w))]) rfl (fun H locs hP hD hS => ?_)
  refine b_if_eq (tgt := 21) hx hb d_B_blame_10 (by decide) (fun c_10 => ?_) (fun c_10 => ?_)
  · refine lv_iconst (v := nI 0) hx hb d_B_blame_21 (by decide) ?_
    refine lv_istore_n (lv' := [(2, .int (nI 0)), (1, .int (nI (2 ^ nm - 1))), (0, .ref (ad 0))]) hx hb d_B_blame_22 rfl hl (by decide) rfl (fun ls hl => ?_)
    refine w_loop 23 [] (nm) (fun i H locs ls => va_P D cls (bsW ad cL cI nv nb nt nf na lv nm vw vp tw ab am ((blS am lv nm i (wAsm am lv nm (2 ^ nm - 1) w, 2 ^ nm - 1)).1)) H ∧ va_D A (bsW ad cL cI nv nb nt nf na lv nm vw vp tw ab am ((blS am lv nm i (wAsm am lv nm (2 ^ nm - 1) w, 2 ^ nm - 1)).1)) ∧ va_S A s.heap H locs ∧ lv_has ls 4 [(1, .int (nI ((blS am lv nm i (wAsm am lv nm (2 ^ nm - 1) w, 2 ^ nm - 1)).2))), (2, .int (nI i)), (0, .ref (ad 0))]) ?_ 0 (Nat.zero_le _) _ _ ls ⟨hP, hD, hS, lv_sub hl [1, 0, 2] rfl⟩
    intro i hi ih H locs ls ⟨hP, hD, hS, hl⟩
    refine lv_iload_n hx hb d_B_blame_23 rfl (lv_at hl 1 rfl) ?_
    refine lv_aload_n hx hb d_B_blame_24 rfl (lv_at hl 2 rfl) ?_
    refine va_get (D := D) (ci := 0) (v := .int (nI nm)) (C := R_B) (T := F_B) (N := 14) hx hb hts in_B hown hK hP 0 rfl rfl 13 (by decide) (hts _ wd_60) (fun _ h9 => h9) rfl d_B_blame_25 ?_
    refine z_icmp_ge (tgt := 55) hx hb (nI_toInt (by omega)) (nI_toInt (by omega)) d_B_blame_28 (by decide) (fun c_28 => ?_) (fun c_28 => ?_)
    · obtain rfl : nm = i := by omega
      refine lv_iload_n hx hb d_B_blame_55 rfl (lv_at hl 0 rfl) ?_
      exact fn_iret hx hb hr hlocks hAe hK hP hD hS rfl d_B_blame_56
    · have bl := blS_le (am := am) (lv := lv) (nm := nm) (wAsm am lv nm (2 ^ nm - 1) w, 2 ^ nm - 1) i
      have bl : (blS am lv nm i (wAsm am lv nm (2 ^ nm - 1) w, 2 ^ nm - 1)).2 ≤ 2 ^ nm - 1 := bl
      refine lv_iload_n hx hb d_B_blame_31 rfl (lv_at hl 0 rfl) ?_
      refine lv_iconst (v := nI 1) hx hb d_B_blame_32 (by decide) ?_
      refine lv_iload_n hx hb d_B_blame_33 rfl (lv_at hl 1 rfl) ?_
      refine n_shl1 hx hb (by omega) d_B_blame_34 ?_
      refine lv_iconst (v := -1) hx hb d_B_blame_35 (by decide) ?_
      refine lv_ixor hx hb d_B_blame_36 ?_
      refine lv_iand hx hb d_B_blame_37 ?_
      rw [clrB_I _ (by omega) _ (by omega)]
      have cl := clrB_le (blS am lv nm i (wAsm am lv nm (2 ^ nm - 1) w, 2 ^ nm - 1)).2 i
      refine lv_istore_n (lv' := [(3, .int (nI (clrB (blS am lv nm i (wAsm am lv nm (2 ^ nm - 1) w, 2 ^ nm - 1)).2 i))), (1, .int (nI ((blS am lv nm i (wAsm am lv nm (2 ^ nm - 1) w, 2 ^ nm - 1)).2))), (2, .int (nI i)), (0, .ref (ad 0))]) hx hb d_B_blame_38 rfl hl (by decide) rfl (fun ls hl => ?_)
      refine lv_aload_n hx hb d_B_blame_39 rfl (lv_at hl 3 rfl) ?_
      refine lv_iload_n hx hb d_B_blame_40 rfl (lv_at hl 0 rfl) ?_
      refine fn_V (ws' := (bsW ad cL cI nv nb nt nf na lv nm vw vp tw ab am (wAsm am lv nm (clrB (blS am lv nm i (wAsm am lv nm (2 ^ nm - 1) w, 2 ^ nm - 1)).2 i) ((blS am lv nm i (wAsm am lv nm (2 ^ nm - 1) w, 2 ^ nm - 1)).1)))) (w1 := (bsW ad cL cI nv nb nt nf na lv nm vw vp tw ab am (wAsm am lv nm (clrB (blS am lv nm i (wAsm am lv nm (2 ^ nm - 1) w, 2 ^ nm - 1)).2 i) ((blS am lv nm i (wAsm am lv nm (2 ^ nm - 1) w, 2 ^ nm - 1)).1)))) (wc := (bsW ad cL cI nv nb nt nf na lv nm vw vp tw ab am ((blS am lv nm i (wAsm am lv nm (2 ^ nm - 1) w, 2 ^ nm - 1)).1))) (wr := []) ⟨hx, hb, hml, hown, hts⟩ (c_B_canAssume l D ad cL cI nv nb nt nf na lv nm vw vp tw ab am ((blS am lv nm i (wAsm am lv nm (2 ^ nm - 1) w, 2 ^ nm - 1)).1) hok (clrB (blS am lv nm i (wAsm am lv nm (2 ^ nm - 1) w, 2 ^ nm - 1)).2 i) (by omega)) ⟨callB_of 1 hts (gW wd_126) rfl rfl rfl (hts _ wd_1) (hts _ wd_123) hd_B_canAssume ⟨Nat.le_of_ble_eq_true rfl, Nat.le_of_ble_eq_true rfl⟩, hts _ wd_125, hts _ wd_p4⟩ XT_ok (fun _ _ _ => trivial) hK hP hD hS hA 0 0 rfl rfl rfl [0, 1] [0, 1, 2, 3, 4, 5, 6, 7, 8] [] [0, 1, 2, 3, 4, 5, 6, 7, 8] rfl rfl rfl rfl rfl (by decide) rfl rfl rfl hl.1 rfl (Nat.le_of_ble_eq_true rfl) d_B_blame_41 ⟨Nat.zero_le _, Nat.zero_le _⟩ (st1 := [.int (bI (pCan am lv nm (clrB (blS am lv nm i (wAsm am lv nm (2 ^ nm - 1) w, 2 ^ nm - 1)).2 i) ((blS am lv nm i (wAsm am lv nm (2 ^ nm - 1) w, 2 ^ nm - 1)).1)))]) rfl (fun H locs hP hD hS => ?_)
      refine b_if_ne (tgt := 49) hx hb d_B_blame_44 (by decide) (fun c_44 => ?_) (fun c_44 => ?_)
      · refine lv_iinc (v := nI (i + 1)) (lv' := [(2, .int (nI (i + 1))), (3, .int (nI (clrB (blS am lv nm i (wAsm am lv nm (2 ^ nm - 1) w, 2 ^ nm - 1)).2 i))), (1, .int (nI ((blS am lv nm i (wAsm am lv nm (2 ^ nm - 1) w, 2 ^ nm - 1)).2))), (0, .ref (ad 0))]) hx hb d_B_blame_49 hl (k := 2) rfl (by rw [← nI_1]; rfl) (by decide) rfl (fun ls hl => ?_)
        refine lv_goto (tgt := 23) hx hb d_B_blame_52 (by decide) ?_
        exact ih _ _ _ (by omega) ⟨hP, hD, hS, by rw [show (blS am lv nm (i + 1) (wAsm am lv nm (2 ^ nm - 1) w, 2 ^ nm - 1)).2 = (blS am lv nm i (wAsm am lv nm (2 ^ nm - 1) w, 2 ^ nm - 1)).2 from if_pos c_44]; exact lv_sub hl [2, 0, 3] rfl⟩
      · refine lv_iload_n hx hb d_B_blame_47 rfl (lv_at hl 0 rfl) ?_
        refine lv_istore_n (lv' := [(1, .int (nI (clrB (blS am lv nm i (wAsm am lv nm (2 ^ nm - 1) w, 2 ^ nm - 1)).2 i))), (3, .int (nI (clrB (blS am lv nm i (wAsm am lv nm (2 ^ nm - 1) w, 2 ^ nm - 1)).2 i))), (2, .int (nI i)), (0, .ref (ad 0))]) hx hb d_B_blame_48 rfl hl (by decide) rfl (fun ls hl => ?_)
        refine lv_iinc (v := nI (i + 1)) (lv' := [(2, .int (nI (i + 1))), (1, .int (nI (clrB (blS am lv nm i (wAsm am lv nm (2 ^ nm - 1) w, 2 ^ nm - 1)).2 i))), (3, .int (nI (clrB (blS am lv nm i (wAsm am lv nm (2 ^ nm - 1) w, 2 ^ nm - 1)).2 i))), (0, .ref (ad 0))]) hx hb d_B_blame_49 hl (k := 2) rfl (by rw [← nI_1]; rfl) (by decide) rfl (fun ls hl => ?_)
        refine lv_goto (tgt := 23) hx hb d_B_blame_52 (by decide) ?_
        exact ih _ _ _ (by omega) ⟨hP, hD, hS, by rw [show (blS am lv nm (i + 1) (wAsm am lv nm (2 ^ nm - 1) w, 2 ^ nm - 1)).2 = clrB (blS am lv nm i (wAsm am lv nm (2 ^ nm - 1) w, 2 ^ nm - 1)).2 i from if_neg (by rw [c_44]; decide)]; exact lv_sub hl [1, 0, 3] rfl⟩
  · exact absurd c_10 (by rw [hm]; decide)
set_option maxHeartbeats 4000000 in
set_option maxRecDepth 100000 in
theorem c_B_count_0 (l : Launch) (D : va_G) (ad : Nat → Nat) (cL cI : ClassId) (nv nb nt nf na lv nm : Nat) (vw vp tw ab am : Nat → Nat) (w : Nat → Int64) (hok : Bok nv nb nt nf na lv nm vw vp tw ab am)  : Fn l y_B_count (wk y_B_count b_B_count 2 (some .int)) rm_B_count D cls [(cL, .long), (cI, .int)] [.ref (ad 0), .int (nI 0)] (bsW ad cL cI nv nb nt nf na lv nm vw vp tw ab am w) XT (some (.int (nI nv))) (bsW ad cL cI nv nb nt nf na lv nm vw vp tw ab am w) := by
  refine Fn.of (by decide) rfl (Nat.le_of_ble_eq_true rfl) ?_
  intro p e s m below meth c A ls hx hb hml hr hts0 hown hlocks hnm hP hK hD hS hA hAe hX hl
  have hts : ∀ w ∈ lw_ok, w.before _ s = true := fun w h => hts0 w (List.mem_cons_of_mem _ h)
  have hown : s.vm.findClass R_B = some m.cls := hown
  have hP : va_P D cls (bsW ad cL cI nv nb nt nf na lv nm vw vp tw ab am w) s.heap := hP
  have hl : lv_has ls 2 [(0, .ref (ad 0)), (1, .int (nI 0))] := hl
  obtain ⟨o_nv, o_nb, o_nt, o_nf, o_na, o_lv, o_nm, o_vw, o_tw, o_am, o_ab⟩ := id hok
  refine lv_iload_n hx hb d_B_count_0 rfl (lv_at hl 1 rfl) ?_
  refine lv_tableIn (tgt := 44) (off := 43) hx hb d_B_count_1 (by decide +kernel) (by decide +kernel) (by decide +kernel) (by decide) ?_
  refine lv_aload_n hx hb d_B_count_44 rfl (lv_at hl 0 rfl) ?_
  refine va_get (D := D) (ci := 0) (v := .int (nI nv)) (C := R_B) (T := F_B) (N := 14) hx hb hts in_B hown hK hP 0 rfl rfl 4 (by decide) (hts _ wd_51) (fun _ h9 => h9) rfl d_B_count_45 ?_
  exact fn_iret hx hb hr hlocks hAe hK hP hD hS rfl d_B_count_48
set_option maxHeartbeats 4000000 in
set_option maxRecDepth 100000 in
theorem c_B_count_1 (l : Launch) (D : va_G) (ad : Nat → Nat) (cL cI : ClassId) (nv nb nt nf na lv nm : Nat) (vw vp tw ab am : Nat → Nat) (w : Nat → Int64) (hok : Bok nv nb nt nf na lv nm vw vp tw ab am)  : Fn l y_B_count (wk y_B_count b_B_count 2 (some .int)) rm_B_count D cls [(cL, .long), (cI, .int)] [.ref (ad 0), .int (nI 1)] (bsW ad cL cI nv nb nt nf na lv nm vw vp tw ab am w) XT (some (.int (nI nt))) (bsW ad cL cI nv nb nt nf na lv nm vw vp tw ab am w) := by
  refine Fn.of (by decide) rfl (Nat.le_of_ble_eq_true rfl) ?_
  intro p e s m below meth c A ls hx hb hml hr hts0 hown hlocks hnm hP hK hD hS hA hAe hX hl
  have hts : ∀ w ∈ lw_ok, w.before _ s = true := fun w h => hts0 w (List.mem_cons_of_mem _ h)
  have hown : s.vm.findClass R_B = some m.cls := hown
  have hP : va_P D cls (bsW ad cL cI nv nb nt nf na lv nm vw vp tw ab am w) s.heap := hP
  have hl : lv_has ls 2 [(0, .ref (ad 0)), (1, .int (nI 1))] := hl
  obtain ⟨o_nv, o_nb, o_nt, o_nf, o_na, o_lv, o_nm, o_vw, o_tw, o_am, o_ab⟩ := id hok
  refine lv_iload_n hx hb d_B_count_0 rfl (lv_at hl 1 rfl) ?_
  refine lv_tableIn (tgt := 49) (off := 48) hx hb d_B_count_1 (by decide +kernel) (by decide +kernel) (by decide +kernel) (by decide) ?_
  refine lv_aload_n hx hb d_B_count_49 rfl (lv_at hl 0 rfl) ?_
  refine va_get (D := D) (ci := 0) (v := .int (nI nt)) (C := R_B) (T := F_B) (N := 14) hx hb hts in_B hown hK hP 0 rfl rfl 7 (by decide) (hts _ wd_54) (fun _ h9 => h9) rfl d_B_count_50 ?_
  exact fn_iret hx hb hr hlocks hAe hK hP hD hS rfl d_B_count_53
set_option maxHeartbeats 4000000 in
set_option maxRecDepth 100000 in
theorem c_B_count_2 (l : Launch) (D : va_G) (ad : Nat → Nat) (cL cI : ClassId) (nv nb nt nf na lv nm : Nat) (vw vp tw ab am : Nat → Nat) (w : Nat → Int64) (hok : Bok nv nb nt nf na lv nm vw vp tw ab am)  : Fn l y_B_count (wk y_B_count b_B_count 2 (some .int)) rm_B_count D cls [(cL, .long), (cI, .int)] [.ref (ad 0), .int (nI 2)] (bsW ad cL cI nv nb nt nf na lv nm vw vp tw ab am w) XT (some (.int (nI nf))) (bsW ad cL cI nv nb nt nf na lv nm vw vp tw ab am w) := by
  refine Fn.of (by decide) rfl (Nat.le_of_ble_eq_true rfl) ?_
  intro p e s m below meth c A ls hx hb hml hr hts0 hown hlocks hnm hP hK hD hS hA hAe hX hl
  have hts : ∀ w ∈ lw_ok, w.before _ s = true := fun w h => hts0 w (List.mem_cons_of_mem _ h)
  have hown : s.vm.findClass R_B = some m.cls := hown
  have hP : va_P D cls (bsW ad cL cI nv nb nt nf na lv nm vw vp tw ab am w) s.heap := hP
  have hl : lv_has ls 2 [(0, .ref (ad 0)), (1, .int (nI 2))] := hl
  obtain ⟨o_nv, o_nb, o_nt, o_nf, o_na, o_lv, o_nm, o_vw, o_tw, o_am, o_ab⟩ := id hok
  refine lv_iload_n hx hb d_B_count_0 rfl (lv_at hl 1 rfl) ?_
  refine lv_tableIn (tgt := 54) (off := 53) hx hb d_B_count_1 (by decide +kernel) (by decide +kernel) (by decide +kernel) (by decide) ?_
  refine lv_aload_n hx hb d_B_count_54 rfl (lv_at hl 0 rfl) ?_
  refine va_get (D := D) (ci := 0) (v := .int (nI nf)) (C := R_B) (T := F_B) (N := 14) hx hb hts in_B hown hK hP 0 rfl rfl 8 (by decide) (hts _ wd_55) (fun _ h9 => h9) rfl d_B_count_55 ?_
  exact fn_iret hx hb hr hlocks hAe hK hP hD hS rfl d_B_count_58
set_option maxHeartbeats 4000000 in
set_option maxRecDepth 100000 in
theorem c_B_count_3 (l : Launch) (D : va_G) (ad : Nat → Nat) (cL cI : ClassId) (nv nb nt nf na lv nm : Nat) (vw vp tw ab am : Nat → Nat) (w : Nat → Int64) (hok : Bok nv nb nt nf na lv nm vw vp tw ab am)  : Fn l y_B_count (wk y_B_count b_B_count 2 (some .int)) rm_B_count D cls [(cL, .long), (cI, .int)] [.ref (ad 0), .int (nI 3)] (bsW ad cL cI nv nb nt nf na lv nm vw vp tw ab am w) XT (some (.int (nI na))) (bsW ad cL cI nv nb nt nf na lv nm vw vp tw ab am w) := by
  refine Fn.of (by decide) rfl (Nat.le_of_ble_eq_true rfl) ?_
  intro p e s m below meth c A ls hx hb hml hr hts0 hown hlocks hnm hP hK hD hS hA hAe hX hl
  have hts : ∀ w ∈ lw_ok, w.before _ s = true := fun w h => hts0 w (List.mem_cons_of_mem _ h)
  have hown : s.vm.findClass R_B = some m.cls := hown
  have hP : va_P D cls (bsW ad cL cI nv nb nt nf na lv nm vw vp tw ab am w) s.heap := hP
  have hl : lv_has ls 2 [(0, .ref (ad 0)), (1, .int (nI 3))] := hl
  obtain ⟨o_nv, o_nb, o_nt, o_nf, o_na, o_lv, o_nm, o_vw, o_tw, o_am, o_ab⟩ := id hok
  refine lv_iload_n hx hb d_B_count_0 rfl (lv_at hl 1 rfl) ?_
  refine lv_tableIn (tgt := 59) (off := 58) hx hb d_B_count_1 (by decide +kernel) (by decide +kernel) (by decide +kernel) (by decide) ?_
  refine lv_aload_n hx hb d_B_count_59 rfl (lv_at hl 0 rfl) ?_
  refine va_get (D := D) (ci := 0) (v := .int (nI na)) (C := R_B) (T := F_B) (N := 14) hx hb hts in_B hown hK hP 0 rfl rfl 10 (by decide) (hts _ wd_57) (fun _ h9 => h9) rfl d_B_count_60 ?_
  exact fn_iret hx hb hr hlocks hAe hK hP hD hS rfl d_B_count_63
set_option maxHeartbeats 4000000 in
set_option maxRecDepth 100000 in
theorem c_B_count_4 (l : Launch) (D : va_G) (ad : Nat → Nat) (cL cI : ClassId) (nv nb nt nf na lv nm : Nat) (vw vp tw ab am : Nat → Nat) (w : Nat → Int64) (hok : Bok nv nb nt nf na lv nm vw vp tw ab am)  : Fn l y_B_count (wk y_B_count b_B_count 2 (some .int)) rm_B_count D cls [(cL, .long), (cI, .int)] [.ref (ad 0), .int (nI 4)] (bsW ad cL cI nv nb nt nf na lv nm vw vp tw ab am w) XT (some (.int (nI lv))) (bsW ad cL cI nv nb nt nf na lv nm vw vp tw ab am w) := by
  refine Fn.of (by decide) rfl (Nat.le_of_ble_eq_true rfl) ?_
  intro p e s m below meth c A ls hx hb hml hr hts0 hown hlocks hnm hP hK hD hS hA hAe hX hl
  have hts : ∀ w ∈ lw_ok, w.before _ s = true := fun w h => hts0 w (List.mem_cons_of_mem _ h)
  have hown : s.vm.findClass R_B = some m.cls := hown
  have hP : va_P D cls (bsW ad cL cI nv nb nt nf na lv nm vw vp tw ab am w) s.heap := hP
  have hl : lv_has ls 2 [(0, .ref (ad 0)), (1, .int (nI 4))] := hl
  obtain ⟨o_nv, o_nb, o_nt, o_nf, o_na, o_lv, o_nm, o_vw, o_tw, o_am, o_ab⟩ := id hok
  refine lv_iload_n hx hb d_B_count_0 rfl (lv_at hl 1 rfl) ?_
  refine lv_tableIn (tgt := 64) (off := 63) hx hb d_B_count_1 (by decide +kernel) (by decide +kernel) (by decide +kernel) (by decide) ?_
  refine lv_aload_n hx hb d_B_count_64 rfl (lv_at hl 0 rfl) ?_
  refine va_get (D := D) (ci := 0) (v := .int (nI lv)) (C := R_B) (T := F_B) (N := 14) hx hb hts in_B hown hK hP 0 rfl rfl 11 (by decide) (hts _ wd_58) (fun _ h9 => h9) rfl d_B_count_65 ?_
  exact fn_iret hx hb hr hlocks hAe hK hP hD hS rfl d_B_count_68
set_option maxHeartbeats 4000000 in
set_option maxRecDepth 100000 in
theorem c_B_count_5 (l : Launch) (D : va_G) (ad : Nat → Nat) (cL cI : ClassId) (nv nb nt nf na lv nm : Nat) (vw vp tw ab am : Nat → Nat) (w : Nat → Int64) (hok : Bok nv nb nt nf na lv nm vw vp tw ab am)  : Fn l y_B_count (wk y_B_count b_B_count 2 (some .int)) rm_B_count D cls [(cL, .long), (cI, .int)] [.ref (ad 0), .int (nI 5)] (bsW ad cL cI nv nb nt nf na lv nm vw vp tw ab am w) XT (some (.int (nI nm))) (bsW ad cL cI nv nb nt nf na lv nm vw vp tw ab am w) := by
  refine Fn.of (by decide) rfl (Nat.le_of_ble_eq_true rfl) ?_
  intro p e s m below meth c A ls hx hb hml hr hts0 hown hlocks hnm hP hK hD hS hA hAe hX hl
  have hts : ∀ w ∈ lw_ok, w.before _ s = true := fun w h => hts0 w (List.mem_cons_of_mem _ h)
  have hown : s.vm.findClass R_B = some m.cls := hown
  have hP : va_P D cls (bsW ad cL cI nv nb nt nf na lv nm vw vp tw ab am w) s.heap := hP
  have hl : lv_has ls 2 [(0, .ref (ad 0)), (1, .int (nI 5))] := hl
  obtain ⟨o_nv, o_nb, o_nt, o_nf, o_na, o_lv, o_nm, o_vw, o_tw, o_am, o_ab⟩ := id hok
  refine lv_iload_n hx hb d_B_count_0 rfl (lv_at hl 1 rfl) ?_
  refine lv_tableIn (tgt := 69) (off := 68) hx hb d_B_count_1 (by decide +kernel) (by decide +kernel) (by decide +kernel) (by decide) ?_
  refine lv_aload_n hx hb d_B_count_69 rfl (lv_at hl 0 rfl) ?_
  refine va_get (D := D) (ci := 0) (v := .int (nI nm)) (C := R_B) (T := F_B) (N := 14) hx hb hts in_B hown hK hP 0 rfl rfl 13 (by decide) (hts _ wd_60) (fun _ h9 => h9) rfl d_B_count_70 ?_
  exact fn_iret hx hb hr hlocks hAe hK hP hD hS rfl d_B_count_73
set_option maxHeartbeats 4000000 in
set_option maxRecDepth 100000 in
theorem c_B_count_6 (l : Launch) (D : va_G) (ad : Nat → Nat) (cL cI : ClassId) (nv nb nt nf na lv nm : Nat) (vw vp tw ab am : Nat → Nat) (w : Nat → Int64) (hok : Bok nv nb nt nf na lv nm vw vp tw ab am)  : Fn l y_B_count (wk y_B_count b_B_count 2 (some .int)) rm_B_count D cls [(cL, .long), (cI, .int)] [.ref (ad 0), .int (nI 6)] (bsW ad cL cI nv nb nt nf na lv nm vw vp tw ab am w) XT (some (.int (nI nb))) (bsW ad cL cI nv nb nt nf na lv nm vw vp tw ab am w) := by
  refine Fn.of (by decide) rfl (Nat.le_of_ble_eq_true rfl) ?_
  intro p e s m below meth c A ls hx hb hml hr hts0 hown hlocks hnm hP hK hD hS hA hAe hX hl
  have hts : ∀ w ∈ lw_ok, w.before _ s = true := fun w h => hts0 w (List.mem_cons_of_mem _ h)
  have hown : s.vm.findClass R_B = some m.cls := hown
  have hP : va_P D cls (bsW ad cL cI nv nb nt nf na lv nm vw vp tw ab am w) s.heap := hP
  have hl : lv_has ls 2 [(0, .ref (ad 0)), (1, .int (nI 6))] := hl
  obtain ⟨o_nv, o_nb, o_nt, o_nf, o_na, o_lv, o_nm, o_vw, o_tw, o_am, o_ab⟩ := id hok
  refine lv_iload_n hx hb d_B_count_0 rfl (lv_at hl 1 rfl) ?_
  refine lv_tableIn (tgt := 74) (off := 73) hx hb d_B_count_1 (by decide +kernel) (by decide +kernel) (by decide +kernel) (by decide) ?_
  refine lv_aload_n hx hb d_B_count_74 rfl (lv_at hl 0 rfl) ?_
  refine va_get (D := D) (ci := 0) (v := .int (nI nb)) (C := R_B) (T := F_B) (N := 14) hx hb hts in_B hown hK hP 0 rfl rfl 5 (by decide) (hts _ wd_52) (fun _ h9 => h9) rfl d_B_count_75 ?_
  exact fn_iret hx hb hr hlocks hAe hK hP hD hS rfl d_B_count_78
set_option maxHeartbeats 4000000 in
set_option maxRecDepth 100000 in
theorem c_B_least (l : Launch) (D : va_G) (ad : Nat → Nat) (cL cI : ClassId) (nv nb nt nf na lv nm : Nat) (vw vp tw ab am : Nat → Nat) (w : Nat → Int64) (hok : Bok nv nb nt nf na lv nm vw vp tw ab am) (t : Nat) (ht : t < nt) (hm : (!pNone w (250 + lv) (250 + lv)) = true) : Fn l y_B_least (wk y_B_least b_B_least 4 (some .int)) rm_B_least D cls [(cL, .long), (cI, .int)] [.ref (ad 0), .int (nI t)] (bsW ad cL cI nv nb nt nf na lv nm vw vp tw ab am w) XT (some (.int (nI ((lsS (50 + t * 4) (tw t) (tw t) (oCopy 256 (250 + lv) 1 w, 0)).2)))) (bsW ad cL cI nv nb nt nf na lv nm vw vp tw ab am ((lsS (50 + t * 4) (tw t) (tw t) (oCopy 256 (250 + lv) 1 w, 0)).1)) := by
  refine Fn.of (by decide) rfl (Nat.le_of_ble_eq_true rfl) ?_
  intro p e s m below meth c A ls hx hb hml hr hts0 hown hlocks hnm hP hK hD hS hA hAe hX hl
  have hts : ∀ w ∈ lw_ok, w.before _ s = true := fun w h => hts0 w (List.mem_cons_of_mem _ h)
  have hown : s.vm.findClass R_B = some m.cls := hown
  have hP : va_P D cls (bsW ad cL cI nv nb nt nf na lv nm vw vp tw ab am w) s.heap := hP
  have hl : lv_has ls 4 [(0, .ref (ad 0)), (1, .int (nI t))] := hl
  obtain ⟨o_nv, o_nb, o_nt, o_nf, o_na, o_lv, o_nm, o_vw, o_tw, o_am, o_ab⟩ := id hok
  have ot := o_tw t ht
  refine lv_aload_n hx hb d_B_least_0 rfl (lv_at hl 0 rfl) ?_
  refine lv_iload_n hx hb d_B_least_1 rfl (lv_at hl 1 rfl) ?_
  refine fn_V (ws' := (bsW ad cL cI nv nb nt nf na lv nm vw vp tw ab am w)) (w1 := (bsW ad cL cI nv nb nt nf na lv nm vw vp tw ab am w)) (wc := (bsW ad cL cI nv nb nt nf na lv nm vw vp tw ab am w)) (wr := []) ⟨hx, hb, hml, hown, hts⟩ (c_B_hasTerm l D ad cL cI nv nb nt nf na lv nm vw vp tw ab am w hok (nI t)) ⟨callB_of 1 hts (gW wd_252) rfl rfl rfl (hts _ wd_1) (hts _ wd_249) hd_B_hasTerm ⟨Nat.le_of_ble_eq_true rfl, Nat.le_of_ble_eq_true rfl⟩, hts _ wd_251, hts _ wd_p10⟩ XT_ok (fun _ _ _ => trivial) hK hP hD hS hA 0 0 rfl rfl rfl [0, 1] [0, 1, 2, 3, 4, 5, 6, 7, 8] [] [0, 1, 2, 3, 4, 5, 6, 7, 8] rfl rfl rfl rfl rfl (by decide) rfl rfl rfl hl.1 rfl (Nat.le_of_ble_eq_true rfl) d_B_least_2 ⟨Nat.zero_le _, Nat.zero_le _⟩ (st1 := [.int (bI (hasB (nI t) nt))]) rfl (fun H locs hP hD hS => ?_)
  refine b_if_ne (tgt := 16) hx hb d_B_least_5 (by decide) (fun c_5 => ?_) (fun c_5 => ?_)
  · refine lv_aload_n hx hb d_B_least_16 rfl (lv_at hl 0 rfl) ?_
    refine fn_V (ws' := (bsW ad cL cI nv nb nt nf na lv nm vw vp tw ab am w)) (w1 := (bsW ad cL cI nv nb nt nf na lv nm vw vp tw ab am w)) (wc := (bsW ad cL cI nv nb nt nf na lv nm vw vp tw ab am w)) (wr := []) ⟨hx, hb, hml, hown, hts⟩ (c_B_hasModel l D ad cL cI nv nb nt nf na lv nm vw vp tw ab am w hok ) ⟨callB_of 0 hts (gW wd_98) rfl rfl rfl (hts _ wd_1) (hts _ wd_95) hd_B_hasModel ⟨Nat.le_of_ble_eq_true rfl, Nat.le_of_ble_eq_true rfl⟩, hts _ wd_97, hts _ wd_p0⟩ XT_ok (fun _ _ _ => trivial) hK hP hD hS hA 0 0 rfl rfl rfl [0, 1] [0, 1, 2, 3, 4, 5, 6, 7, 8] [] [0, 1, 2, 3, 4, 5, 6, 7, 8] rfl rfl rfl rfl rfl (by decide) rfl rfl rfl hl.1 rfl (Nat.le_of_ble_eq_true rfl) d_B_least_17 ⟨Nat.zero_le _, Nat.zero_le _⟩ (st1 := [.int (bI (!pNone w (250 + lv) (250 + lv)))]) rfl (fun H locs hP hD hS => ?_)
    refine b_if_ne (tgt := 31) hx hb d_B_least_20 (by decide) (fun c_20 => ?_) (fun c_20 => ?_)
    · refine lv_aload_n hx hb d_B_least_31 rfl (lv_at hl 0 rfl) ?_
      refine va_get (D := D) (ci := 0) (v := .ref (ad 2)) (C := R_B) (T := F_B) (N := 14) hx hb hts in_B hown hK hP 0 rfl rfl 0 (by decide) (hts _ wd_47) (fun _ h9 => h9) rfl d_B_least_32 ?_
      refine lv_sipush (v := nI 256) hx hb d_B_least_35 (by decide) ?_
      refine lv_aload_n hx hb d_B_least_38 rfl (lv_at hl 0 rfl) ?_
      refine fn_V (ws' := (bsW ad cL cI nv nb nt nf na lv nm vw vp tw ab am w)) (w1 := (bsW ad cL cI nv nb nt nf na lv nm vw vp tw ab am w)) (wc := (bsW ad cL cI nv nb nt nf na lv nm vw vp tw ab am w)) (wr := []) ⟨hx, hb, hml, hown, hts⟩ (c_B_modelRow l D ad cL cI nv nb nt nf na lv nm vw vp tw ab am w hok ) ⟨callB_of 0 hts (gW wd_102) rfl rfl rfl (hts _ wd_1) (hts _ wd_99) hd_B_modelRow ⟨Nat.le_of_ble_eq_true rfl, Nat.le_of_ble_eq_true rfl⟩, hts _ wd_101, hts _ wd_p1⟩ XT_ok (fun _ _ _ => trivial) hK hP hD hS hA 0 0 rfl rfl rfl [0, 1] [0, 1, 2, 3, 4, 5, 6, 7, 8] [] [0, 1, 2, 3, 4, 5, 6, 7, 8] rfl rfl rfl rfl rfl (by decide) rfl rfl rfl hl.1 rfl (Nat.le_of_ble_eq_true rfl) d_B_least_39 ⟨Nat.zero_le _, Nat.zero_le _⟩ (st1 := [.int (nI (250 + lv)), .int (nI 256), .ref (ad 2)]) rfl (fun H locs hP hD hS => ?_)
      refine lv_iconst (v := nI 1) hx hb d_B_least_42 (by decide) ?_
      refine fn_V (ws' := (bsW ad cL cI nv nb nt nf na lv nm vw vp tw ab am (oCopy 256 (250 + lv) 1 w))) (w1 := (setsW (ad 2) (ad 3) cL (oCopy 256 (250 + lv) 1 w))) (wc := (setsW (ad 2) (ad 3) cL w)) (wr := [(ad 0, .inr (0, [.ref (ad 2), .ref (ad 1), .ref (ad 4), .ref (ad 5), .int (nI nv), .int (nI nb), .ref (ad 6), .int (nI nt), .int (nI nf), .ref (ad 7), .int (nI na), .int (nI lv), .ref (ad 8), .int (nI nm)])), (ad 1, .inr (2, [.ref (ad 2)])), (ad 4, .inl (cI, 6, .inl (fun j => nI (vw j)))), (ad 5, .inl (cI, 6, .inl (fun j => nI (vp j)))), (ad 6, .inl (cI, 50, .inl (fun j => nI (tw j)))), (ad 7, .inl (cI, 6, .inl (fun j => nI (ab j)))), (ad 8, .inl (cI, 8, .inl (fun j => nI (am j))))]) ⟨hx, hb, hml, hown, hts⟩ (c_S_copy l D (ad 2) (ad 3) cL w 256 (250 + lv) 1 (by omega) (by omega) (by omega)) ⟨callB_of 3 hts (gW wd_130) rfl rfl rfl (hts _ wd_3) (hts _ wd_127) hd_S_copy ⟨Nat.le_of_ble_eq_true rfl, Nat.le_of_ble_eq_true rfl⟩, hts _ wd_128, hts _ wd_129⟩ XT_ok (fun _ _ _ => trivial) hK hP hD hS hA 2 1 rfl rfl rfl [0] [2, 3] [0, 1, 4, 5, 6, 7, 8] [0, 1, 7, 8, 2, 3, 4, 5, 6] rfl rfl rfl rfl rfl (by decide) rfl rfl rfl hl.1 rfl (Nat.le_of_ble_eq_true rfl) d_B_least_43 ⟨Nat.zero_le _, Nat.zero_le _⟩ (st1 := []) rfl (fun H locs hP hD hS => ?_)
      refine lv_iconst (v := nI 0) hx hb d_B_least_46 (by decide) ?_
      refine lv_istore_n (lv' := [(2, .int (nI 0)), (0, .ref (ad 0)), (1, .int (nI t))]) hx hb d_B_least_47 rfl hl (by decide) rfl (fun ls hl => ?_)
      refine lv_aload_n hx hb d_B_least_48 rfl (lv_at hl 1 rfl) ?_
      refine va_get (D := D) (ci := 0) (v := .ref (ad 6)) (C := R_B) (T := F_B) (N := 14) hx hb hts in_B hown hK hP 0 rfl rfl 6 (by decide) (hts _ wd_53) (fun _ h9 => h9) rfl d_B_least_49 ?_
      refine lv_iload_n hx hb d_B_least_52 rfl (lv_at hl 2 rfl) ?_
      refine n_iald hx hb hK hP 6 1 rfl rfl (i := t) (by omega) (by omega) d_B_least_53 ?_
      refine lv_iconst (v := nI 1) hx hb d_B_least_54 (by decide) ?_
      refine n_sub hx hb (by omega) d_B_least_55 ?_
      refine lv_istore_n (lv' := [(3, .int (nI ((tw t) - 1))), (2, .int (nI 0)), (0, .ref (ad 0)), (1, .int (nI t))]) hx hb d_B_least_56 rfl hl (by decide) rfl (fun ls hl => ?_)
      refine w_loop 57 [] (tw t) (fun i H locs ls => va_P D cls (bsW ad cL cI nv nb nt nf na lv nm vw vp tw ab am ((lsS (50 + t * 4) (tw t) i (oCopy 256 (250 + lv) 1 w, 0)).1)) H ∧ va_D A (bsW ad cL cI nv nb nt nf na lv nm vw vp tw ab am ((lsS (50 + t * 4) (tw t) i (oCopy 256 (250 + lv) 1 w, 0)).1)) ∧ va_S A s.heap H locs ∧ lv_has ls 4 [(3, .int (nI (tw t - i) - nI 1)), (2, .int (nI ((lsS (50 + t * 4) (tw t) i (oCopy 256 (250 + lv) 1 w, 0)).2))), (0, .ref (ad 0)), (1, .int (nI t))]) ?_ 0 (Nat.zero_le _) _ _ ls ⟨hP, hD, hS, by rw [pk_sub (a := tw t - 0) (b := 1) (by omega)]; exact lv_sub hl [0, 1, 2, 3] rfl⟩
      intro i hi ih H locs ls ⟨hP, hD, hS, hl⟩
      have ez : (nI (tw t - i) - nI 1).toInt = ((tw t - i : Nat) : Int) - 1 := pk_sub_toInt (b := 1) (by omega) (by omega)
      refine lv_iload_n hx hb d_B_least_57 rfl (lv_at hl 0 rfl) ?_
      refine z_if_lt (tgt := 111) hx hb rfl d_B_least_58 (by decide) (fun c_58 => ?_) (fun c_58 => ?_)
      · have he : tw t = i := by rw [ez] at c_58; omega
        rw [← he] at hP hD
        refine lv_iload_n hx hb d_B_least_111 rfl (lv_at hl 1 rfl) ?_
        exact fn_iret hx hb hr hlocks hAe hK hP hD hS (by rw [he]) d_B_least_112
      · have hlt : i < tw t := by rw [ez] at c_58; omega
        have en : nI (tw t - i) - nI 1 = nI (tw t - 1 - i) := (pk_sub (a := tw t - i) (b := 1) (by omega)).trans (by rw [show tw t - i - 1 = tw t - 1 - i by omega])
        rw [en] at hl
        refine lv_aload_n hx hb d_B_least_61 rfl (lv_at hl 2 rfl) ?_
        refine va_get (D := D) (ci := 0) (v := .ref (ad 2)) (C := R_B) (T := F_B) (N := 14) hx hb hts in_B hown hK hP 0 rfl rfl 0 (by decide) (hts _ wd_47) (fun _ h9 => h9) rfl d_B_least_62 ?_
        refine lv_sipush (v := nI 256) hx hb d_B_least_65 (by decide) ?_
        refine lv_iload_n hx hb d_B_least_68 rfl (lv_at hl 3 rfl) ?_
        refine fn_S (ws' := (bsW ad cL cI nv nb nt nf na lv nm vw vp tw ab am ((lsS (50 + t * 4) (tw t) i (oCopy 256 (250 + lv) 1 w, 0)).1))) (w1 := (nilW)) (wc := (nilW)) (wr := [(ad 0, .inr (0, [.ref (ad 2), .ref (ad 1), .ref (ad 4), .ref (ad 5), .int (nI nv), .int (nI nb), .ref (ad 6), .int (nI nt), .int (nI nf), .ref (ad 7), .int (nI na), .int (nI lv), .ref (ad 8), .int (nI nm)])), (ad 1, .inr (2, [.ref (ad 2)])), (ad 2, .inr (1, [.ref (ad 3)])), (ad 3, .inl (cL, 4160, .inr (.inl ((lsS (50 + t * 4) (tw t) i (oCopy 256 (250 + lv) 1 w, 0)).1)))), (ad 4, .inl (cI, 6, .inl (fun j => nI (vw j)))), (ad 5, .inl (cI, 6, .inl (fun j => nI (vp j)))), (ad 6, .inl (cI, 50, .inl (fun j => nI (tw j)))), (ad 7, .inl (cI, 6, .inl (fun j => nI (ab j)))), (ad 8, .inl (cI, 8, .inl (fun j => nI (am j))))]) ⟨hx, hb, hml, hown, hts⟩ (c_B_termRow l D t) ⟨callB_of 1 hts (gW wd_267) rfl rfl rfl (hts _ wd_1) (hts _ wd_265) hd_B_termRow ⟨Nat.le_of_ble_eq_true rfl, Nat.le_of_ble_eq_true rfl⟩, hts _ wd_266⟩ XT_ok (fun _ _ _ => trivial) hK hP hD hS hA [] [] [0, 1, 2, 3, 4, 5, 6, 7, 8] [0, 1, 2, 3, 4, 5, 6, 7, 8] rfl rfl rfl rfl rfl (by decide) rfl rfl rfl hl.1 rfl (Nat.le_of_ble_eq_true rfl) d_B_least_69 ⟨Nat.zero_le _, Nat.zero_le _⟩ (st1 := [.int (nI (50 + t * 4)), .int (nI 256), .ref (ad 2)]) rfl (fun H locs hP hD hS => ?_)
        refine lv_iload_n hx hb d_B_least_72 rfl (lv_at hl 0 rfl) ?_
        refine n_add hx hb d_B_least_73 ?_
        refine fn_V (ws' := (bsW ad cL cI nv nb nt nf na lv nm vw vp tw ab am ((lsS (50 + t * 4) (tw t) i (oCopy 256 (250 + lv) 1 w, 0)).1))) (w1 := (setsW (ad 2) (ad 3) cL ((lsS (50 + t * 4) (tw t) i (oCopy 256 (250 + lv) 1 w, 0)).1))) (wc := (setsW (ad 2) (ad 3) cL ((lsS (50 + t * 4) (tw t) i (oCopy 256 (250 + lv) 1 w, 0)).1))) (wr := [(ad 0, .inr (0, [.ref (ad 2), .ref (ad 1), .ref (ad 4), .ref (ad 5), .int (nI nv), .int (nI nb), .ref (ad 6), .int (nI nt), .int (nI nf), .ref (ad 7), .int (nI na), .int (nI lv), .ref (ad 8), .int (nI nm)])), (ad 1, .inr (2, [.ref (ad 2)])), (ad 4, .inl (cI, 6, .inl (fun j => nI (vw j)))), (ad 5, .inl (cI, 6, .inl (fun j => nI (vp j)))), (ad 6, .inl (cI, 50, .inl (fun j => nI (tw j)))), (ad 7, .inl (cI, 6, .inl (fun j => nI (ab j)))), (ad 8, .inl (cI, 8, .inl (fun j => nI (am j))))]) ⟨hx, hb, hml, hown, hts⟩ (c_S_isWithin l D (ad 2) (ad 3) cL ((lsS (50 + t * 4) (tw t) i (oCopy 256 (250 + lv) 1 w, 0)).1) 256 ((50 + t * 4) + (tw t - 1 - i)) (by omega) (by omega)) ⟨callB_of 2 hts (gW wd_467) rfl rfl rfl (hts _ wd_3) (hts _ wd_464) hd_S_isWithin ⟨Nat.le_of_ble_eq_true rfl, Nat.le_of_ble_eq_true rfl⟩, hts _ wd_465, hts _ wd_466⟩ XT_ok (fun _ _ _ => trivial) hK hP hD hS hA 2 1 rfl rfl rfl [0] [2, 3] [0, 1, 4, 5, 6, 7, 8] [0, 1, 7, 8, 2, 3, 4, 5, 6] rfl rfl rfl rfl rfl (by decide) rfl rfl rfl hl.1 rfl (Nat.le_of_ble_eq_true rfl) d_B_least_74 ⟨Nat.zero_le _, Nat.zero_le _⟩ (st1 := [.int (bI (pWithin ((lsS (50 + t * 4) (tw t) i (oCopy 256 (250 + lv) 1 w, 0)).1) 256 ((50 + t * 4) + (tw t - 1 - i))))]) rfl (fun H locs hP hD hS => ?_)
        refine b_if_eq (tgt := 89) hx hb d_B_least_77 (by decide) (fun c_77 => ?_) (fun c_77 => ?_)
        · refine lv_aload_n hx hb d_B_least_89 rfl (lv_at hl 2 rfl) ?_
          refine va_get (D := D) (ci := 0) (v := .ref (ad 2)) (C := R_B) (T := F_B) (N := 14) hx hb hts in_B hown hK hP 0 rfl rfl 0 (by decide) (hts _ wd_47) (fun _ h9 => h9) rfl d_B_least_90 ?_
          refine lv_sipush (v := nI 256) hx hb d_B_least_93 (by decide) ?_
          refine lv_iload_n hx hb d_B_least_96 rfl (lv_at hl 3 rfl) ?_
          refine fn_S (ws' := (bsW ad cL cI nv nb nt nf na lv nm vw vp tw ab am ((lsS (50 + t * 4) (tw t) i (oCopy 256 (250 + lv) 1 w, 0)).1))) (w1 := (nilW)) (wc := (nilW)) (wr := [(ad 0, .inr (0, [.ref (ad 2), .ref (ad 1), .ref (ad 4), .ref (ad 5), .int (nI nv), .int (nI nb), .ref (ad 6), .int (nI nt), .int (nI nf), .ref (ad 7), .int (nI na), .int (nI lv), .ref (ad 8), .int (nI nm)])), (ad 1, .inr (2, [.ref (ad 2)])), (ad 2, .inr (1, [.ref (ad 3)])), (ad 3, .inl (cL, 4160, .inr (.inl ((lsS (50 + t * 4) (tw t) i (oCopy 256 (250 + lv) 1 w, 0)).1)))), (ad 4, .inl (cI, 6, .inl (fun j => nI (vw j)))), (ad 5, .inl (cI, 6, .inl (fun j => nI (vp j)))), (ad 6, .inl (cI, 50, .inl (fun j => nI (tw j)))), (ad 7, .inl (cI, 6, .inl (fun j => nI (ab j)))), (ad 8, .inl (cI, 8, .inl (fun j => nI (am j))))]) ⟨hx, hb, hml, hown, hts⟩ (c_B_termRow l D t) ⟨callB_of 1 hts (gW wd_267) rfl rfl rfl (hts _ wd_1) (hts _ wd_265) hd_B_termRow ⟨Nat.le_of_ble_eq_true rfl, Nat.le_of_ble_eq_true rfl⟩, hts _ wd_266⟩ XT_ok (fun _ _ _ => trivial) hK hP hD hS hA [] [] [0, 1, 2, 3, 4, 5, 6, 7, 8] [0, 1, 2, 3, 4, 5, 6, 7, 8] rfl rfl rfl rfl rfl (by decide) rfl rfl rfl hl.1 rfl (Nat.le_of_ble_eq_true rfl) d_B_least_97 ⟨Nat.zero_le _, Nat.zero_le _⟩ (st1 := [.int (nI (50 + t * 4)), .int (nI 256), .ref (ad 2)]) rfl (fun H locs hP hD hS => ?_)
          refine lv_iload_n hx hb d_B_least_100 rfl (lv_at hl 0 rfl) ?_
          refine n_add hx hb d_B_least_101 ?_
          refine fn_V (ws' := (bsW ad cL cI nv nb nt nf na lv nm vw vp tw ab am (oRemove 256 ((50 + t * 4) + (tw t - 1 - i)) ((lsS (50 + t * 4) (tw t) i (oCopy 256 (250 + lv) 1 w, 0)).1)))) (w1 := (setsW (ad 2) (ad 3) cL (oRemove 256 ((50 + t * 4) + (tw t - 1 - i)) ((lsS (50 + t * 4) (tw t) i (oCopy 256 (250 + lv) 1 w, 0)).1)))) (wc := (setsW (ad 2) (ad 3) cL ((lsS (50 + t * 4) (tw t) i (oCopy 256 (250 + lv) 1 w, 0)).1))) (wr := [(ad 0, .inr (0, [.ref (ad 2), .ref (ad 1), .ref (ad 4), .ref (ad 5), .int (nI nv), .int (nI nb), .ref (ad 6), .int (nI nt), .int (nI nf), .ref (ad 7), .int (nI na), .int (nI lv), .ref (ad 8), .int (nI nm)])), (ad 1, .inr (2, [.ref (ad 2)])), (ad 4, .inl (cI, 6, .inl (fun j => nI (vw j)))), (ad 5, .inl (cI, 6, .inl (fun j => nI (vp j)))), (ad 6, .inl (cI, 50, .inl (fun j => nI (tw j)))), (ad 7, .inl (cI, 6, .inl (fun j => nI (ab j)))), (ad 8, .inl (cI, 8, .inl (fun j => nI (am j))))]) ⟨hx, hb, hml, hown, hts⟩ (c_S_remove l D (ad 2) (ad 3) cL ((lsS (50 + t * 4) (tw t) i (oCopy 256 (250 + lv) 1 w, 0)).1) 256 ((50 + t * 4) + (tw t - 1 - i)) (by omega) (by omega) (by omega)) ⟨callB_of 2 hts (gW wd_365) rfl rfl rfl (hts _ wd_3) (hts _ wd_486) hd_S_remove ⟨Nat.le_of_ble_eq_true rfl, Nat.le_of_ble_eq_true rfl⟩, hts _ wd_363, hts _ wd_364⟩ XT_ok (fun _ _ _ => trivial) hK hP hD hS hA 2 1 rfl rfl rfl [0] [2, 3] [0, 1, 4, 5, 6, 7, 8] [0, 1, 7, 8, 2, 3, 4, 5, 6] rfl rfl rfl rfl rfl (by decide) rfl rfl rfl hl.1 rfl (Nat.le_of_ble_eq_true rfl) d_B_least_102 ⟨Nat.zero_le _, Nat.zero_le _⟩ (st1 := []) rfl (fun H locs hP hD hS => ?_)
          refine lv_iinc (v := nI (tw t - 1 - i) - nI 1) (lv' := [(3, .int (nI (tw t - 1 - i) - nI 1)), (2, .int (nI ((lsS (50 + t * 4) (tw t) i (oCopy 256 (250 + lv) 1 w, 0)).2))), (0, .ref (ad 0)), (1, .int (nI t))]) hx hb d_B_least_105 hl (k := 0) rfl (n_dec _) (by decide) rfl (fun ls hl => ?_)
          refine lv_goto (tgt := 57) hx hb d_B_least_108 (by decide) ?_
          have el : (lsS (50 + t * 4) (tw t) (i + 1) (oCopy 256 (250 + lv) 1 w, 0)) = (oRemove 256 (50 + t * 4 + (tw t - 1 - i)) (lsS (50 + t * 4) (tw t) i (oCopy 256 (250 + lv) 1 w, 0)).1, (lsS (50 + t * 4) (tw t) i (oCopy 256 (250 + lv) 1 w, 0)).2) := if_neg (by rw [c_77]; decide)
          exact ih _ _ _ (by omega) ⟨by rw [el]; exact hP, by rw [el]; exact hD, hS, by rw [el, show nI (tw t - (i + 1)) - nI 1 = nI (tw t - 1 - i) - nI 1 by rw [show tw t - (i + 1) = tw t - 1 - i by omega]]; exact lv_sub hl [0, 1, 2, 3] rfl⟩
        · refine lv_iload_n hx hb d_B_least_80 rfl (lv_at hl 1 rfl) ?_
          refine lv_iconst (v := nI 1) hx hb d_B_least_81 (by decide) ?_
          refine lv_iload_n hx hb d_B_least_82 rfl (lv_at hl 0 rfl) ?_
          refine n_shl1 hx hb (by omega) d_B_least_83 ?_
          refine n_or hx hb d_B_least_84 ?_
          refine lv_istore_n (lv' := [(2, .int (nI (((lsS (50 + t * 4) (tw t) i (oCopy 256 (250 + lv) 1 w, 0)).2) ||| (2 ^ (tw t - 1 - i))))), (3, .int (nI (tw t - 1 - i))), (0, .ref (ad 0)), (1, .int (nI t))]) hx hb d_B_least_85 rfl hl (by decide) rfl (fun ls hl => ?_)
          refine lv_goto (tgt := 105) hx hb d_B_least_86 (by decide) ?_
          refine lv_iinc (v := nI (tw t - 1 - i) - nI 1) (lv' := [(3, .int (nI (tw t - 1 - i) - nI 1)), (2, .int (nI (((lsS (50 + t * 4) (tw t) i (oCopy 256 (250 + lv) 1 w, 0)).2) ||| (2 ^ (tw t - 1 - i))))), (0, .ref (ad 0)), (1, .int (nI t))]) hx hb d_B_least_105 hl (k := 1) rfl (n_dec _) (by decide) rfl (fun ls hl => ?_)
          refine lv_goto (tgt := 57) hx hb d_B_least_108 (by decide) ?_
          have el : (lsS (50 + t * 4) (tw t) (i + 1) (oCopy 256 (250 + lv) 1 w, 0)) = ((lsS (50 + t * 4) (tw t) i (oCopy 256 (250 + lv) 1 w, 0)).1, (lsS (50 + t * 4) (tw t) i (oCopy 256 (250 + lv) 1 w, 0)).2 ||| 2 ^ (tw t - 1 - i)) := if_pos c_77
          exact ih _ _ _ (by omega) ⟨by rw [el]; exact hP, by rw [el]; exact hD, hS, by rw [el, show nI (tw t - (i + 1)) - nI 1 = nI (tw t - 1 - i) - nI 1 by rw [show tw t - (i + 1) = tw t - 1 - i by omega]]; exact lv_sub hl [0, 1, 2, 3] rfl⟩
    · exact absurd hm (by rw [c_20]; decide)
  · exact absurd (hasB_I (n := nt) ht (by omega)) (by rw [c_5]; decide)
