set_option maxHeartbeats 4000000 in
set_option maxRecDepth 100000 in
theorem c_C_addBit (l : Launch) (D : va_G) (hc hs hw : Nat) (cL : ClassId) (w : Nat → Int64) (to a b : Nat) (h1 : to + 1 ≤ 260) (h2 : a + 1 ≤ 260) (h3 : b + 1 ≤ 260) : Fn l y_C_addBit (wk y_C_addBit b_C_addBit 4 none) rm_C_addBit D cls [(cL, .long)] [.ref hc, .int (nI to), .int (nI a), .int (nI b)] (circW hc hs hw cL w) XT none (circW hc hs hw cL (cAdd to a b w)) := by
  refine Fn.of (by decide) rfl (Nat.le_of_ble_eq_true rfl) ?_
  intro p e s m below meth c A ls hx hb hml hr hts0 hown hlocks hnm hP hK hD hS hA hAe hX hl
  have hts : ∀ w ∈ lw_ok, w.before _ s = true := fun w h => hts0 w (List.mem_cons_of_mem _ h)
  have hown : s.vm.findClass R_C = some m.cls := hown
  have hP : va_P D cls (circW hc hs hw cL w) s.heap := hP
  have hl : lv_has ls 4 [(0, .ref hc), (1, .int (nI to)), (2, .int (nI a)), (3, .int (nI b))] := hl
  refine lv_aload_n hx hb d_C_addBit_0 rfl (lv_at hl 0 rfl) ?_
  refine va_get (D := D) (ci := 2) (v := .ref hs) (C := R_C) (T := F_C) (N := 1) hx hb hts in_C hown hK hP 0 rfl rfl 0 (by decide) (hts _ wd_37) (fun _ h9 => h9) rfl d_C_addBit_1 ?_
  refine lv_sipush (v := nI 258) hx hb d_C_addBit_4 (by decide) ?_
  refine lv_iload_n hx hb d_C_addBit_7 rfl (lv_at hl 2 rfl) ?_
  refine lv_iload_n hx hb d_C_addBit_8 rfl (lv_at hl 3 rfl) ?_
  refine lv_iconst (v := nI 1) hx hb d_C_addBit_9 (by decide) ?_
  refine fn_V (ws' := (circW hc hs hw cL (oXor 258 a b 1 w))) (w1 := (setsW hs hw cL (oXor 258 a b 1 w))) (wc := (setsW hs hw cL w)) (wr := [(hc, .inr (2, [.ref hs]))]) ⟨hx, hb, hml, hown, hts⟩ (c_S_exclusive l D hs hw cL w 258 a b 1 (by omega) (by omega) (by omega) (by omega) (by omega)) ⟨callB_of 4 hts (gW wd_297) rfl rfl rfl (hts _ wd_3) (hts _ wd_294) hd_S_exclusive ⟨Nat.le_of_ble_eq_true rfl, Nat.le_of_ble_eq_true rfl⟩, hts _ wd_295, hts _ wd_296⟩ XT_ok (fun _ _ _ => trivial) hK hP hD hS hA 1 1 rfl rfl rfl [0] [1, 2] [0] [0, 1, 2] rfl rfl rfl rfl rfl (by decide) rfl rfl rfl hl.1 rfl (Nat.le_of_ble_eq_true rfl) d_C_addBit_10 ⟨Nat.zero_le _, Nat.zero_le _⟩ (st1 := []) rfl (fun H locs hP hD hS => ?_)
  refine lv_aload_n hx hb d_C_addBit_13 rfl (lv_at hl 0 rfl) ?_
  refine va_get (D := D) (ci := 2) (v := .ref hs) (C := R_C) (T := F_C) (N := 1) hx hb hts in_C hown hK hP 0 rfl rfl 0 (by decide) (hts _ wd_37) (fun _ h9 => h9) rfl d_C_addBit_14 ?_
  refine lv_sipush (v := nI 259) hx hb d_C_addBit_17 (by decide) ?_
  refine lv_iload_n hx hb d_C_addBit_20 rfl (lv_at hl 2 rfl) ?_
  refine lv_iload_n hx hb d_C_addBit_21 rfl (lv_at hl 3 rfl) ?_
  refine lv_iconst (v := nI 1) hx hb d_C_addBit_22 (by decide) ?_
  refine fn_V (ws' := (circW hc hs hw cL (oAnd 259 a b 1 (oXor 258 a b 1 w)))) (w1 := (setsW hs hw cL (oAnd 259 a b 1 (oXor 258 a b 1 w)))) (wc := (setsW hs hw cL (oXor 258 a b 1 w))) (wr := [(hc, .inr (2, [.ref hs]))]) ⟨hx, hb, hml, hown, hts⟩ (c_S_and l D hs hw cL (oXor 258 a b 1 w) 259 a b 1 (by omega) (by omega) (by omega) (by omega) (by omega)) ⟨callB_of 4 hts (gW wd_134) rfl rfl rfl (hts _ wd_3) (hts _ wd_298) hd_S_and ⟨Nat.le_of_ble_eq_true rfl, Nat.le_of_ble_eq_true rfl⟩, hts _ wd_132, hts _ wd_133⟩ XT_ok (fun _ _ _ => trivial) hK hP hD hS hA 1 1 rfl rfl rfl [0] [1, 2] [0] [0, 1, 2] rfl rfl rfl rfl rfl (by decide) rfl rfl rfl hl.1 rfl (Nat.le_of_ble_eq_true rfl) d_C_addBit_23 ⟨Nat.zero_le _, Nat.zero_le _⟩ (st1 := []) rfl (fun H locs hP hD hS => ?_)
  refine lv_aload_n hx hb d_C_addBit_26 rfl (lv_at hl 0 rfl) ?_
  refine va_get (D := D) (ci := 2) (v := .ref hs) (C := R_C) (T := F_C) (N := 1) hx hb hts in_C hown hK hP 0 rfl rfl 0 (by decide) (hts _ wd_37) (fun _ h9 => h9) rfl d_C_addBit_27 ?_
  refine lv_iload_n hx hb d_C_addBit_30 rfl (lv_at hl 1 rfl) ?_
  refine lv_sipush (v := nI 258) hx hb d_C_addBit_31 (by decide) ?_
  refine lv_sipush (v := nI 257) hx hb d_C_addBit_34 (by decide) ?_
  refine lv_iconst (v := nI 1) hx hb d_C_addBit_37 (by decide) ?_
  refine fn_V (ws' := (circW hc hs hw cL (oXor to 258 257 1 (oAnd 259 a b 1 (oXor 258 a b 1 w))))) (w1 := (setsW hs hw cL (oXor to 258 257 1 (oAnd 259 a b 1 (oXor 258 a b 1 w))))) (wc := (setsW hs hw cL (oAnd 259 a b 1 (oXor 258 a b 1 w)))) (wr := [(hc, .inr (2, [.ref hs]))]) ⟨hx, hb, hml, hown, hts⟩ (c_S_exclusive l D hs hw cL (oAnd 259 a b 1 (oXor 258 a b 1 w)) to 258 257 1 (by omega) (by omega) (by omega) (by omega) (by omega)) ⟨callB_of 4 hts (gW wd_297) rfl rfl rfl (hts _ wd_3) (hts _ wd_294) hd_S_exclusive ⟨Nat.le_of_ble_eq_true rfl, Nat.le_of_ble_eq_true rfl⟩, hts _ wd_295, hts _ wd_296⟩ XT_ok (fun _ _ _ => trivial) hK hP hD hS hA 1 1 rfl rfl rfl [0] [1, 2] [0] [0, 1, 2] rfl rfl rfl rfl rfl (by decide) rfl rfl rfl hl.1 rfl (Nat.le_of_ble_eq_true rfl) d_C_addBit_38 ⟨Nat.zero_le _, Nat.zero_le _⟩ (st1 := []) rfl (fun H locs hP hD hS => ?_)
  refine lv_aload_n hx hb d_C_addBit_41 rfl (lv_at hl 0 rfl) ?_
  refine va_get (D := D) (ci := 2) (v := .ref hs) (C := R_C) (T := F_C) (N := 1) hx hb hts in_C hown hK hP 0 rfl rfl 0 (by decide) (hts _ wd_37) (fun _ h9 => h9) rfl d_C_addBit_42 ?_
  refine lv_sipush (v := nI 257) hx hb d_C_addBit_45 (by decide) ?_
  refine lv_sipush (v := nI 257) hx hb d_C_addBit_48 (by decide) ?_
  refine lv_sipush (v := nI 258) hx hb d_C_addBit_51 (by decide) ?_
  refine lv_iconst (v := nI 1) hx hb d_C_addBit_54 (by decide) ?_
  refine fn_V (ws' := (circW hc hs hw cL (oAnd 257 257 258 1 (oXor to 258 257 1 (oAnd 259 a b 1 (oXor 258 a b 1 w)))))) (w1 := (setsW hs hw cL (oAnd 257 257 258 1 (oXor to 258 257 1 (oAnd 259 a b 1 (oXor 258 a b 1 w)))))) (wc := (setsW hs hw cL (oXor to 258 257 1 (oAnd 259 a b 1 (oXor 258 a b 1 w))))) (wr := [(hc, .inr (2, [.ref hs]))]) ⟨hx, hb, hml, hown, hts⟩ (c_S_and l D hs hw cL (oXor to 258 257 1 (oAnd 259 a b 1 (oXor 258 a b 1 w))) 257 257 258 1 (by omega) (by omega) (by omega) (by omega) (by omega)) ⟨callB_of 4 hts (gW wd_134) rfl rfl rfl (hts _ wd_3) (hts _ wd_298) hd_S_and ⟨Nat.le_of_ble_eq_true rfl, Nat.le_of_ble_eq_true rfl⟩, hts _ wd_132, hts _ wd_133⟩ XT_ok (fun _ _ _ => trivial) hK hP hD hS hA 1 1 rfl rfl rfl [0] [1, 2] [0] [0, 1, 2] rfl rfl rfl rfl rfl (by decide) rfl rfl rfl hl.1 rfl (Nat.le_of_ble_eq_true rfl) d_C_addBit_55 ⟨Nat.zero_le _, Nat.zero_le _⟩ (st1 := []) rfl (fun H locs hP hD hS => ?_)
  refine lv_aload_n hx hb d_C_addBit_58 rfl (lv_at hl 0 rfl) ?_
  refine va_get (D := D) (ci := 2) (v := .ref hs) (C := R_C) (T := F_C) (N := 1) hx hb hts in_C hown hK hP 0 rfl rfl 0 (by decide) (hts _ wd_37) (fun _ h9 => h9) rfl d_C_addBit_59 ?_
  refine lv_sipush (v := nI 257) hx hb d_C_addBit_62 (by decide) ?_
  refine lv_sipush (v := nI 257) hx hb d_C_addBit_65 (by decide) ?_
  refine lv_sipush (v := nI 259) hx hb d_C_addBit_68 (by decide) ?_
  refine lv_iconst (v := nI 1) hx hb d_C_addBit_71 (by decide) ?_
  refine fn_V (ws' := (circW hc hs hw cL (oOr 257 257 259 1 (oAnd 257 257 258 1 (oXor to 258 257 1 (oAnd 259 a b 1 (oXor 258 a b 1 w))))))) (w1 := (setsW hs hw cL (oOr 257 257 259 1 (oAnd 257 257 258 1 (oXor to 258 257 1 (oAnd 259 a b 1 (oXor 258 a b 1 w))))))) (wc := (setsW hs hw cL (oAnd 257 257 258 1 (oXor to 258 257 1 (oAnd 259 a b 1 (oXor 258 a b 1 w)))))) (wr := [(hc, .inr (2, [.ref hs]))]) ⟨hx, hb, hml, hown, hts⟩ (c_S_or l D hs hw cL (oAnd 257 257 258 1 (oXor to 258 257 1 (oAnd 259 a b 1 (oXor 258 a b 1 w)))) 257 257 259 1 (by omega) (by omega) (by omega) (by omega) (by omega)) ⟨callB_of 4 hts (gW wd_302) rfl rfl rfl (hts _ wd_3) (hts _ wd_299) hd_S_or ⟨Nat.le_of_ble_eq_true rfl, Nat.le_of_ble_eq_true rfl⟩, hts _ wd_300, hts _ wd_301⟩ XT_ok (fun _ _ _ => trivial) hK hP hD hS hA 1 1 rfl rfl rfl [0] [1, 2] [0] [0, 1, 2] rfl rfl rfl rfl rfl (by decide) rfl rfl rfl hl.1 rfl (Nat.le_of_ble_eq_true rfl) d_C_addBit_72 ⟨Nat.zero_le _, Nat.zero_le _⟩ (st1 := []) rfl (fun H locs hP hD hS => ?_)
  exact fn_vret hx hb hr hlocks hAe hK hP hD hS d_C_addBit_75
set_option maxHeartbeats 4000000 in
set_option maxRecDepth 100000 in
theorem c_C_sum (l : Launch) (D : va_G) (hc hs hw : Nat) (cL : ClassId) (w : Nat → Int64) (to a b width : Nat)  (h1 : to + width ≤ 260) (h2 : a + width ≤ 260) (h3 : b + width ≤ 260) : Fn l y_C_sum (wk y_C_sum b_C_sum 6 none) rm_C_sum D cls [(cL, .long)] [.ref hc, .int (nI to), .int (nI a), .int (nI b), .int (nI width)] (circW hc hs hw cL w) XT none (circW hc hs hw cL (cSum to a b width w)) := by
  refine Fn.of (by decide) rfl (Nat.le_of_ble_eq_true rfl) ?_
  intro p e s m below meth c A ls hx hb hml hr hts0 hown hlocks hnm hP hK hD hS hA hAe hX hl
  have hts : ∀ w ∈ lw_ok, w.before _ s = true := fun w h => hts0 w (List.mem_cons_of_mem _ h)
  have hown : s.vm.findClass R_C = some m.cls := hown
  have hP : va_P D cls (circW hc hs hw cL w) s.heap := hP
  have hl : lv_has ls 6 [(0, .ref hc), (1, .int (nI to)), (2, .int (nI a)), (3, .int (nI b)), (4, .int (nI width))] := hl
  refine lv_aload_n hx hb d_C_sum_0 rfl (lv_at hl 0 rfl) ?_
  refine va_get (D := D) (ci := 2) (v := .ref hs) (C := R_C) (T := F_C) (N := 1) hx hb hts in_C hown hK hP 0 rfl rfl 0 (by decide) (hts _ wd_37) (fun _ h9 => h9) rfl d_C_sum_1 ?_
  refine lv_sipush (v := nI 257) hx hb d_C_sum_4 (by decide) ?_
  refine lv_iconst (v := nI 1) hx hb d_C_sum_7 (by decide) ?_
  refine lv_iconst (v := nI 0) hx hb d_C_sum_8 (by decide) ?_
  refine fn_V (ws' := (circW hc hs hw cL (oFill false 257 1 w))) (w1 := (setsW hs hw cL (oFill false 257 1 w))) (wc := (setsW hs hw cL w)) (wr := [(hc, .inr (2, [.ref hs]))]) ⟨hx, hb, hml, hown, hts⟩ (c_S_fill l D hs hw cL w 257 1 false (by omega)) ⟨callB_of 3 hts (gW wd_45) rfl rfl rfl (hts _ wd_3) (hts _ wd_289) hd_S_fill ⟨Nat.le_of_ble_eq_true rfl, Nat.le_of_ble_eq_true rfl⟩, hts _ wd_43, hts _ wd_44⟩ XT_ok (fun _ _ _ => trivial) hK hP hD hS hA 1 1 rfl rfl rfl [0] [1, 2] [0] [0, 1, 2] rfl rfl rfl rfl rfl (by decide) rfl rfl rfl hl.1 rfl (Nat.le_of_ble_eq_true rfl) d_C_sum_9 ⟨Nat.zero_le _, Nat.zero_le _⟩ (st1 := []) rfl (fun H locs hP hD hS => ?_)
  refine lv_iconst (v := nI 0) hx hb d_C_sum_12 (by decide) ?_
  refine lv_istore (lv' := [(5, .int (nI 0)), (0, .ref hc), (1, .int (nI to)), (2, .int (nI a)), (3, .int (nI b)), (4, .int (nI width))]) hx hb d_C_sum_13 hl (by decide) rfl (fun ls hl => ?_)
  refine w_loop 15 [] (width) (fun i H locs ls => va_P D cls (circW hc hs hw cL (cSumN to a b i (oFill false 257 1 w))) H ∧ va_D A (circW hc hs hw cL (cSumN to a b i (oFill false 257 1 w))) ∧ va_S A s.heap H locs ∧ lv_has ls 6 [(5, .int (nI i)), (0, .ref hc), (1, .int (nI to)), (2, .int (nI a)), (3, .int (nI b)), (4, .int (nI width))]) ?_ 0 (Nat.zero_le _) _ _ ls ⟨hP, hD, hS, lv_sub hl [0, 1, 2, 3, 4, 5] rfl⟩
  intro i hi ih H locs ls ⟨hP, hD, hS, hl⟩
  refine lv_iload hx hb d_C_sum_15 (lv_at hl 0 rfl) ?_
  refine lv_iload hx hb d_C_sum_17 (lv_at hl 5 rfl) ?_
  refine z_icmp_ge (tgt := 44) hx hb (nI_toInt (by omega)) (nI_toInt (by omega)) d_C_sum_19 (by decide) (fun c_19 => ?_) (fun c_19 => ?_)
  · obtain rfl : width = i := by omega
    exact fn_vret hx hb hr hlocks hAe hK hP hD hS d_C_sum_44
  · refine lv_aload_n hx hb d_C_sum_22 rfl (lv_at hl 1 rfl) ?_
    refine lv_iload_n hx hb d_C_sum_23 rfl (lv_at hl 2 rfl) ?_
    refine lv_iload hx hb d_C_sum_24 (lv_at hl 0 rfl) ?_
    refine n_add hx hb d_C_sum_26 ?_
    refine lv_iload_n hx hb d_C_sum_27 rfl (lv_at hl 3 rfl) ?_
    refine lv_iload hx hb d_C_sum_28 (lv_at hl 0 rfl) ?_
    refine n_add hx hb d_C_sum_30 ?_
    refine lv_iload_n hx hb d_C_sum_31 rfl (lv_at hl 4 rfl) ?_
    refine lv_iload hx hb d_C_sum_32 (lv_at hl 0 rfl) ?_
    refine n_add hx hb d_C_sum_34 ?_
    refine fn_V (ws' := (circW hc hs hw cL (cAdd (to + i) (a + i) (b + i) (cSumN to a b i (oFill false 257 1 w))))) (w1 := (circW hc hs hw cL (cAdd (to + i) (a + i) (b + i) (cSumN to a b i (oFill false 257 1 w))))) (wc := (circW hc hs hw cL (cSumN to a b i (oFill false 257 1 w)))) (wr := []) ⟨hx, hb, hml, hown, hts⟩ (c_C_addBit l D hc hs hw cL (cSumN to a b i (oFill false 257 1 w)) (to + i) (a + i) (b + i) (by omega) (by omega) (by omega)) ⟨callB_of 3 hts (gW wd_293) rfl rfl rfl (hts _ wd_2) (hts _ wd_290) hd_C_addBit ⟨Nat.le_of_ble_eq_true rfl, Nat.le_of_ble_eq_true rfl⟩, hts _ wd_292, hts _ wd_p16⟩ XT_ok (fun _ _ _ => trivial) hK hP hD hS hA 0 2 rfl rfl rfl [0] [0, 1, 2] [] [0, 1, 2] rfl rfl rfl rfl rfl (by decide) rfl rfl rfl hl.1 rfl (Nat.le_of_ble_eq_true rfl) d_C_sum_35 ⟨Nat.zero_le _, Nat.zero_le _⟩ (st1 := []) rfl (fun H locs hP hD hS => ?_)
    refine lv_iinc (v := nI (i + 1)) (lv' := [(5, .int (nI (i + 1))), (0, .ref hc), (1, .int (nI to)), (2, .int (nI a)), (3, .int (nI b)), (4, .int (nI width))]) hx hb d_C_sum_38 hl (k := 0) rfl (by rw [← nI_1]; rfl) (by decide) rfl (fun ls hl => ?_)
    refine lv_goto (tgt := 15) hx hb d_C_sum_41 (by decide) ?_
    exact ih _ _ _ (by omega) ⟨hP, hD, hS, lv_sub hl [0, 1, 2, 3, 4, 5] rfl⟩
set_option maxHeartbeats 4000000 in
set_option maxRecDepth 100000 in
theorem c_C_difference (l : Launch) (D : va_G) (hc hs hw : Nat) (cL : ClassId) (w : Nat → Int64) (to a b width : Nat)  (h1 : to + width ≤ 260) (h2 : a + width ≤ 260) (h3 : b + width ≤ 260) : Fn l y_C_difference (wk y_C_difference b_C_difference 6 none) rm_C_difference D cls [(cL, .long)] [.ref hc, .int (nI to), .int (nI a), .int (nI b), .int (nI width)] (circW hc hs hw cL w) XT none (circW hc hs hw cL (cDiff to a b width w)) := by
  refine Fn.of (by decide) rfl (Nat.le_of_ble_eq_true rfl) ?_
  intro p e s m below meth c A ls hx hb hml hr hts0 hown hlocks hnm hP hK hD hS hA hAe hX hl
  have hts : ∀ w ∈ lw_ok, w.before _ s = true := fun w h => hts0 w (List.mem_cons_of_mem _ h)
  have hown : s.vm.findClass R_C = some m.cls := hown
  have hP : va_P D cls (circW hc hs hw cL w) s.heap := hP
  have hl : lv_has ls 6 [(0, .ref hc), (1, .int (nI to)), (2, .int (nI a)), (3, .int (nI b)), (4, .int (nI width))] := hl
  refine lv_aload_n hx hb d_C_difference_0 rfl (lv_at hl 0 rfl) ?_
  refine va_get (D := D) (ci := 2) (v := .ref hs) (C := R_C) (T := F_C) (N := 1) hx hb hts in_C hown hK hP 0 rfl rfl 0 (by decide) (hts _ wd_37) (fun _ h9 => h9) rfl d_C_difference_1 ?_
  refine lv_sipush (v := nI 257) hx hb d_C_difference_4 (by decide) ?_
  refine lv_iconst (v := nI 1) hx hb d_C_difference_7 (by decide) ?_
  refine lv_iconst (v := nI 1) hx hb d_C_difference_8 (by decide) ?_
  refine fn_V (ws' := (circW hc hs hw cL (oFill true 257 1 w))) (w1 := (setsW hs hw cL (oFill true 257 1 w))) (wc := (setsW hs hw cL w)) (wr := [(hc, .inr (2, [.ref hs]))]) ⟨hx, hb, hml, hown, hts⟩ (c_S_fill l D hs hw cL w 257 1 true (by omega)) ⟨callB_of 3 hts (gW wd_45) rfl rfl rfl (hts _ wd_3) (hts _ wd_289) hd_S_fill ⟨Nat.le_of_ble_eq_true rfl, Nat.le_of_ble_eq_true rfl⟩, hts _ wd_43, hts _ wd_44⟩ XT_ok (fun _ _ _ => trivial) hK hP hD hS hA 1 1 rfl rfl rfl [0] [1, 2] [0] [0, 1, 2] rfl rfl rfl rfl rfl (by decide) rfl rfl rfl hl.1 rfl (Nat.le_of_ble_eq_true rfl) d_C_difference_9 ⟨Nat.zero_le _, Nat.zero_le _⟩ (st1 := []) rfl (fun H locs hP hD hS => ?_)
  refine lv_iconst (v := nI 0) hx hb d_C_difference_12 (by decide) ?_
  refine lv_istore (lv' := [(5, .int (nI 0)), (0, .ref hc), (1, .int (nI to)), (2, .int (nI a)), (3, .int (nI b)), (4, .int (nI width))]) hx hb d_C_difference_13 hl (by decide) rfl (fun ls hl => ?_)
  refine w_loop 15 [] (width) (fun i H locs ls => va_P D cls (circW hc hs hw cL (cDiffN to a b i (oFill true 257 1 w))) H ∧ va_D A (circW hc hs hw cL (cDiffN to a b i (oFill true 257 1 w))) ∧ va_S A s.heap H locs ∧ lv_has ls 6 [(5, .int (nI i)), (0, .ref hc), (1, .int (nI to)), (2, .int (nI a)), (3, .int (nI b)), (4, .int (nI width))]) ?_ 0 (Nat.zero_le _) _ _ ls ⟨hP, hD, hS, lv_sub hl [0, 1, 2, 3, 4, 5] rfl⟩
  intro i hi ih H locs ls ⟨hP, hD, hS, hl⟩
  refine lv_iload hx hb d_C_difference_15 (lv_at hl 0 rfl) ?_
  refine lv_iload hx hb d_C_difference_17 (lv_at hl 5 rfl) ?_
  refine z_icmp_ge (tgt := 58) hx hb (nI_toInt (by omega)) (nI_toInt (by omega)) d_C_difference_19 (by decide) (fun c_19 => ?_) (fun c_19 => ?_)
  · obtain rfl : width = i := by omega
    exact fn_vret hx hb hr hlocks hAe hK hP hD hS d_C_difference_58
  · refine lv_aload_n hx hb d_C_difference_22 rfl (lv_at hl 1 rfl) ?_
    refine va_get (D := D) (ci := 2) (v := .ref hs) (C := R_C) (T := F_C) (N := 1) hx hb hts in_C hown hK hP 0 rfl rfl 0 (by decide) (hts _ wd_37) (fun _ h9 => h9) rfl d_C_difference_23 ?_
    refine lv_sipush (v := nI 256) hx hb d_C_difference_26 (by decide) ?_
    refine lv_iload_n hx hb d_C_difference_29 rfl (lv_at hl 4 rfl) ?_
    refine lv_iload hx hb d_C_difference_30 (lv_at hl 0 rfl) ?_
    refine n_add hx hb d_C_difference_32 ?_
    refine lv_iconst (v := nI 1) hx hb d_C_difference_33 (by decide) ?_
    refine fn_V (ws' := (circW hc hs hw cL (oTurn 256 (b + i) 1 (cDiffN to a b i (oFill true 257 1 w))))) (w1 := (setsW hs hw cL (oTurn 256 (b + i) 1 (cDiffN to a b i (oFill true 257 1 w))))) (wc := (setsW hs hw cL (cDiffN to a b i (oFill true 257 1 w)))) (wr := [(hc, .inr (2, [.ref hs]))]) ⟨hx, hb, hml, hown, hts⟩ (c_S_turn l D hs hw cL (cDiffN to a b i (oFill true 257 1 w)) 256 (b + i) 1 (by omega) (by omega) (by omega)) ⟨callB_of 3 hts (gW wd_310) rfl rfl rfl (hts _ wd_3) (hts _ wd_307) hd_S_turn ⟨Nat.le_of_ble_eq_true rfl, Nat.le_of_ble_eq_true rfl⟩, hts _ wd_308, hts _ wd_309⟩ XT_ok (fun _ _ _ => trivial) hK hP hD hS hA 1 1 rfl rfl rfl [0] [1, 2] [0] [0, 1, 2] rfl rfl rfl rfl rfl (by decide) rfl rfl rfl hl.1 rfl (Nat.le_of_ble_eq_true rfl) d_C_difference_34 ⟨Nat.zero_le _, Nat.zero_le _⟩ (st1 := []) rfl (fun H locs hP hD hS => ?_)
    refine lv_aload_n hx hb d_C_difference_37 rfl (lv_at hl 1 rfl) ?_
    refine lv_iload_n hx hb d_C_difference_38 rfl (lv_at hl 2 rfl) ?_
    refine lv_iload hx hb d_C_difference_39 (lv_at hl 0 rfl) ?_
    refine n_add hx hb d_C_difference_41 ?_
    refine lv_iload_n hx hb d_C_difference_42 rfl (lv_at hl 3 rfl) ?_
    refine lv_iload hx hb d_C_difference_43 (lv_at hl 0 rfl) ?_
    refine n_add hx hb d_C_difference_45 ?_
    refine lv_sipush (v := nI 256) hx hb d_C_difference_46 (by decide) ?_
    refine fn_V (ws' := (circW hc hs hw cL (cAdd (to + i) (a + i) 256 (oTurn 256 (b + i) 1 (cDiffN to a b i (oFill true 257 1 w)))))) (w1 := (circW hc hs hw cL (cAdd (to + i) (a + i) 256 (oTurn 256 (b + i) 1 (cDiffN to a b i (oFill true 257 1 w)))))) (wc := (circW hc hs hw cL (oTurn 256 (b + i) 1 (cDiffN to a b i (oFill true 257 1 w))))) (wr := []) ⟨hx, hb, hml, hown, hts⟩ (c_C_addBit l D hc hs hw cL (oTurn 256 (b + i) 1 (cDiffN to a b i (oFill true 257 1 w))) (to + i) (a + i) 256 (by omega) (by omega) (by omega)) ⟨callB_of 3 hts (gW wd_293) rfl rfl rfl (hts _ wd_2) (hts _ wd_290) hd_C_addBit ⟨Nat.le_of_ble_eq_true rfl, Nat.le_of_ble_eq_true rfl⟩, hts _ wd_292, hts _ wd_p16⟩ XT_ok (fun _ _ _ => trivial) hK hP hD hS hA 0 2 rfl rfl rfl [0] [0, 1, 2] [] [0, 1, 2] rfl rfl rfl rfl rfl (by decide) rfl rfl rfl hl.1 rfl (Nat.le_of_ble_eq_true rfl) d_C_difference_49 ⟨Nat.zero_le _, Nat.zero_le _⟩ (st1 := []) rfl (fun H locs hP hD hS => ?_)
    refine lv_iinc (v := nI (i + 1)) (lv' := [(5, .int (nI (i + 1))), (0, .ref hc), (1, .int (nI to)), (2, .int (nI a)), (3, .int (nI b)), (4, .int (nI width))]) hx hb d_C_difference_52 hl (k := 0) rfl (by rw [← nI_1]; rfl) (by decide) rfl (fun ls hl => ?_)
    refine lv_goto (tgt := 15) hx hb d_C_difference_55 (by decide) ?_
    exact ih _ _ _ (by omega) ⟨hP, hD, hS, lv_sub hl [0, 1, 2, 3, 4, 5] rfl⟩
set_option maxHeartbeats 4000000 in
set_option maxRecDepth 100000 in
theorem c_C_moveUp (l : Launch) (D : va_G) (hc hs hw : Nat) (cL : ClassId) (w : Nat → Int64) (to a width way : Nat)  (h1 : to + width ≤ 260) (h2 : a + width ≤ 260) (h3 : way ≤ 4) : Fn l y_C_moveUp (wk y_C_moveUp b_C_moveUp 6 none) rm_C_moveUp D cls [(cL, .long)] [.ref hc, .int (nI to), .int (nI a), .int (nI width), .int (nI way)] (circW hc hs hw cL w) XT none (circW hc hs hw cL (cUpN to a way width w)) := by
  refine Fn.of (by decide) rfl (Nat.le_of_ble_eq_true rfl) ?_
  intro p e s m below meth c A ls hx hb hml hr hts0 hown hlocks hnm hP hK hD hS hA hAe hX hl
  have hts : ∀ w ∈ lw_ok, w.before _ s = true := fun w h => hts0 w (List.mem_cons_of_mem _ h)
  have hown : s.vm.findClass R_C = some m.cls := hown
  have hP : va_P D cls (circW hc hs hw cL w) s.heap := hP
  have hl : lv_has ls 6 [(0, .ref hc), (1, .int (nI to)), (2, .int (nI a)), (3, .int (nI width)), (4, .int (nI way))] := hl
  refine lv_iconst (v := nI 0) hx hb d_C_moveUp_0 (by decide) ?_
  refine lv_istore (lv' := [(5, .int (nI 0)), (0, .ref hc), (1, .int (nI to)), (2, .int (nI a)), (3, .int (nI width)), (4, .int (nI way))]) hx hb d_C_moveUp_1 hl (by decide) rfl (fun ls hl => ?_)
  refine w_loop 3 [] (width) (fun i H locs ls => va_P D cls (circW hc hs hw cL (cUpN to a way i w)) H ∧ va_D A (circW hc hs hw cL (cUpN to a way i w)) ∧ va_S A s.heap H locs ∧ lv_has ls 6 [(5, .int (nI i)), (0, .ref hc), (1, .int (nI to)), (2, .int (nI a)), (3, .int (nI width)), (4, .int (nI way))]) ?_ 0 (Nat.zero_le _) _ _ ls ⟨hP, hD, hS, lv_sub hl [0, 1, 2, 3, 4, 5] rfl⟩
  intro i hi ih H locs ls ⟨hP, hD, hS, hl⟩
  refine lv_iload hx hb d_C_moveUp_3 (lv_at hl 0 rfl) ?_
  refine lv_iload_n hx hb d_C_moveUp_5 rfl (lv_at hl 4 rfl) ?_
  refine z_icmp_ge (tgt := 57) hx hb (nI_toInt (by omega)) (nI_toInt (by omega)) d_C_moveUp_6 (by decide) (fun c_6 => ?_) (fun c_6 => ?_)
  · obtain rfl : width = i := by omega
    exact fn_vret hx hb hr hlocks hAe hK hP hD hS d_C_moveUp_57
  · refine lv_iload hx hb d_C_moveUp_9 (lv_at hl 0 rfl) ?_
    refine lv_iload hx hb d_C_moveUp_11 (lv_at hl 5 rfl) ?_
    refine z_icmp_ge (tgt := 32) hx hb (nI_toInt (by omega)) (nI_toInt (by omega)) d_C_moveUp_13 (by decide) (fun c_13 => ?_) (fun c_13 => ?_)
    · refine lv_aload_n hx hb d_C_moveUp_32 rfl (lv_at hl 1 rfl) ?_
      refine va_get (D := D) (ci := 2) (v := .ref hs) (C := R_C) (T := F_C) (N := 1) hx hb hts in_C hown hK hP 0 rfl rfl 0 (by decide) (hts _ wd_37) (fun _ h9 => h9) rfl d_C_moveUp_33 ?_
      refine lv_iload_n hx hb d_C_moveUp_36 rfl (lv_at hl 2 rfl) ?_
      refine lv_iload hx hb d_C_moveUp_37 (lv_at hl 0 rfl) ?_
      refine n_add hx hb d_C_moveUp_39 ?_
      refine lv_iload_n hx hb d_C_moveUp_40 rfl (lv_at hl 3 rfl) ?_
      refine lv_iload hx hb d_C_moveUp_41 (lv_at hl 0 rfl) ?_
      refine n_add hx hb d_C_moveUp_43 ?_
      refine lv_iload hx hb d_C_moveUp_44 (lv_at hl 5 rfl) ?_
      refine n_sub hx hb (by omega) d_C_moveUp_46 ?_
      refine lv_iconst (v := nI 1) hx hb d_C_moveUp_47 (by decide) ?_
      refine fn_V (ws' := (circW hc hs hw cL (oCopy (to + i) ((a + i) - way) 1 (cUpN to a way i w)))) (w1 := (setsW hs hw cL (oCopy (to + i) ((a + i) - way) 1 (cUpN to a way i w)))) (wc := (setsW hs hw cL (cUpN to a way i w))) (wr := [(hc, .inr (2, [.ref hs]))]) ⟨hx, hb, hml, hown, hts⟩ (c_S_copy l D hs hw cL (cUpN to a way i w) (to + i) ((a + i) - way) 1 (by omega) (by omega) (by omega)) ⟨callB_of 3 hts (gW wd_130) rfl rfl rfl (hts _ wd_3) (hts _ wd_330) hd_S_copy ⟨Nat.le_of_ble_eq_true rfl, Nat.le_of_ble_eq_true rfl⟩, hts _ wd_128, hts _ wd_129⟩ XT_ok (fun _ _ _ => trivial) hK hP hD hS hA 1 1 rfl rfl rfl [0] [1, 2] [0] [0, 1, 2] rfl rfl rfl rfl rfl (by decide) rfl rfl rfl hl.1 rfl (Nat.le_of_ble_eq_true rfl) d_C_moveUp_48 ⟨Nat.zero_le _, Nat.zero_le _⟩ (st1 := []) rfl (fun H locs hP hD hS => ?_)
      refine lv_iinc (v := nI (i + 1)) (lv' := [(5, .int (nI (i + 1))), (0, .ref hc), (1, .int (nI to)), (2, .int (nI a)), (3, .int (nI width)), (4, .int (nI way))]) hx hb d_C_moveUp_51 hl (k := 0) rfl (by rw [← nI_1]; rfl) (by decide) rfl (fun ls hl => ?_)
      refine lv_goto (tgt := 3) hx hb d_C_moveUp_54 (by decide) ?_
      exact ih _ _ _ (by omega) ⟨by rw [show cUpN to a way (i + 1) w = oCopy (to + i) ((a + i) - way) 1 (cUpN to a way i w) from if_neg (by omega)]; exact hP, by rw [show cUpN to a way (i + 1) w = oCopy (to + i) ((a + i) - way) 1 (cUpN to a way i w) from if_neg (by omega)]; exact hD, hS, lv_sub hl [0, 1, 2, 3, 4, 5] rfl⟩
    · refine lv_aload_n hx hb d_C_moveUp_16 rfl (lv_at hl 1 rfl) ?_
      refine va_get (D := D) (ci := 2) (v := .ref hs) (C := R_C) (T := F_C) (N := 1) hx hb hts in_C hown hK hP 0 rfl rfl 0 (by decide) (hts _ wd_37) (fun _ h9 => h9) rfl d_C_moveUp_17 ?_
      refine lv_iload_n hx hb d_C_moveUp_20 rfl (lv_at hl 2 rfl) ?_
      refine lv_iload hx hb d_C_moveUp_21 (lv_at hl 0 rfl) ?_
      refine n_add hx hb d_C_moveUp_23 ?_
      refine lv_iconst (v := nI 1) hx hb d_C_moveUp_24 (by decide) ?_
      refine lv_iconst (v := nI 0) hx hb d_C_moveUp_25 (by decide) ?_
      refine fn_V (ws' := (circW hc hs hw cL (oFill false (to + i) 1 (cUpN to a way i w)))) (w1 := (setsW hs hw cL (oFill false (to + i) 1 (cUpN to a way i w)))) (wc := (setsW hs hw cL (cUpN to a way i w))) (wr := [(hc, .inr (2, [.ref hs]))]) ⟨hx, hb, hml, hown, hts⟩ (c_S_fill l D hs hw cL (cUpN to a way i w) (to + i) 1 false (by omega)) ⟨callB_of 3 hts (gW wd_45) rfl rfl rfl (hts _ wd_3) (hts _ wd_289) hd_S_fill ⟨Nat.le_of_ble_eq_true rfl, Nat.le_of_ble_eq_true rfl⟩, hts _ wd_43, hts _ wd_44⟩ XT_ok (fun _ _ _ => trivial) hK hP hD hS hA 1 1 rfl rfl rfl [0] [1, 2] [0] [0, 1, 2] rfl rfl rfl rfl rfl (by decide) rfl rfl rfl hl.1 rfl (Nat.le_of_ble_eq_true rfl) d_C_moveUp_26 ⟨Nat.zero_le _, Nat.zero_le _⟩ (st1 := []) rfl (fun H locs hP hD hS => ?_)
      refine lv_goto (tgt := 51) hx hb d_C_moveUp_29 (by decide) ?_
      refine lv_iinc (v := nI (i + 1)) (lv' := [(5, .int (nI (i + 1))), (0, .ref hc), (1, .int (nI to)), (2, .int (nI a)), (3, .int (nI width)), (4, .int (nI way))]) hx hb d_C_moveUp_51 hl (k := 0) rfl (by rw [← nI_1]; rfl) (by decide) rfl (fun ls hl => ?_)
      refine lv_goto (tgt := 3) hx hb d_C_moveUp_54 (by decide) ?_
      exact ih _ _ _ (by omega) ⟨by rw [show cUpN to a way (i + 1) w = oFill false (to + i) 1 (cUpN to a way i w) from if_pos (by omega)]; exact hP, by rw [show cUpN to a way (i + 1) w = oFill false (to + i) 1 (cUpN to a way i w) from if_pos (by omega)]; exact hD, hS, lv_sub hl [0, 1, 2, 3, 4, 5] rfl⟩
set_option maxHeartbeats 4000000 in
set_option maxRecDepth 100000 in
theorem c_C_moveDown (l : Launch) (D : va_G) (hc hs hw : Nat) (cL : ClassId) (w : Nat → Int64) (to a width way : Nat) (sg : Bool) (h1 : to + width ≤ 260) (h2 : a + width ≤ 260) (h3 : way ≤ 4) : Fn l y_C_moveDown (wk y_C_moveDown b_C_moveDown 7 none) rm_C_moveDown D cls [(cL, .long)] [.ref hc, .int (nI to), .int (nI a), .int (nI width), .int (nI way), .int (bI sg)] (circW hc hs hw cL w) XT none (circW hc hs hw cL (cDownN to a width way sg width w)) := by
  refine Fn.of (by decide) rfl (Nat.le_of_ble_eq_true rfl) ?_
  intro p e s m below meth c A ls hx hb hml hr hts0 hown hlocks hnm hP hK hD hS hA hAe hX hl
  have hts : ∀ w ∈ lw_ok, w.before _ s = true := fun w h => hts0 w (List.mem_cons_of_mem _ h)
  have hown : s.vm.findClass R_C = some m.cls := hown
  have hP : va_P D cls (circW hc hs hw cL w) s.heap := hP
  have hl : lv_has ls 7 [(0, .ref hc), (1, .int (nI to)), (2, .int (nI a)), (3, .int (nI width)), (4, .int (nI way)), (5, .int (bI sg))] := hl
  refine lv_iconst (v := nI 0) hx hb d_C_moveDown_0 (by decide) ?_
  refine lv_istore (lv' := [(6, .int (nI 0)), (0, .ref hc), (1, .int (nI to)), (2, .int (nI a)), (3, .int (nI width)), (4, .int (nI way)), (5, .int (bI sg))]) hx hb d_C_moveDown_1 hl (by decide) rfl (fun ls hl => ?_)
  refine w_loop 3 [] (width) (fun i H locs ls => va_P D cls (circW hc hs hw cL (cDownN to a width way sg i w)) H ∧ va_D A (circW hc hs hw cL (cDownN to a width way sg i w)) ∧ va_S A s.heap H locs ∧ lv_has ls 7 [(6, .int (nI i)), (0, .ref hc), (1, .int (nI to)), (2, .int (nI a)), (3, .int (nI width)), (4, .int (nI way)), (5, .int (bI sg))]) ?_ 0 (Nat.zero_le _) _ _ ls ⟨hP, hD, hS, lv_sub hl [0, 1, 2, 3, 4, 5, 6] rfl⟩
  intro i hi ih H locs ls ⟨hP, hD, hS, hl⟩
  refine lv_iload hx hb d_C_moveDown_3 (lv_at hl 0 rfl) ?_
  refine lv_iload_n hx hb d_C_moveDown_5 rfl (lv_at hl 4 rfl) ?_
  refine z_icmp_ge (tgt := 84) hx hb (nI_toInt (by omega)) (nI_toInt (by omega)) d_C_moveDown_6 (by decide) (fun c_6 => ?_) (fun c_6 => ?_)
  · obtain rfl : width = i := by omega
    exact fn_vret hx hb hr hlocks hAe hK hP hD hS d_C_moveDown_84
  · refine lv_iload hx hb d_C_moveDown_9 (lv_at hl 0 rfl) ?_
    refine lv_iload hx hb d_C_moveDown_11 (lv_at hl 5 rfl) ?_
    refine n_add hx hb d_C_moveDown_13 ?_
    refine lv_iload_n hx hb d_C_moveDown_14 rfl (lv_at hl 4 rfl) ?_
    refine z_icmp_ge (tgt := 40) hx hb (nI_toInt (by omega)) (nI_toInt (by omega)) d_C_moveDown_15 (by decide) (fun c_15 => ?_) (fun c_15 => ?_)
    · refine lv_iload hx hb d_C_moveDown_40 (lv_at hl 6 rfl) ?_
      refine b_if_eq (tgt := 65) hx hb d_C_moveDown_42 (by decide) (fun c_42 => ?_) (fun c_42 => ?_)
      · refine lv_aload_n hx hb d_C_moveDown_65 rfl (lv_at hl 1 rfl) ?_
        refine va_get (D := D) (ci := 2) (v := .ref hs) (C := R_C) (T := F_C) (N := 1) hx hb hts in_C hown hK hP 0 rfl rfl 0 (by decide) (hts _ wd_37) (fun _ h9 => h9) rfl d_C_moveDown_66 ?_
        refine lv_iload_n hx hb d_C_moveDown_69 rfl (lv_at hl 2 rfl) ?_
        refine lv_iload hx hb d_C_moveDown_70 (lv_at hl 0 rfl) ?_
        refine n_add hx hb d_C_moveDown_72 ?_
        refine lv_iconst (v := nI 1) hx hb d_C_moveDown_73 (by decide) ?_
        refine lv_iconst (v := nI 0) hx hb d_C_moveDown_74 (by decide) ?_
        refine fn_V (ws' := (circW hc hs hw cL (oFill false (to + i) 1 (cDownN to a width way sg i w)))) (w1 := (setsW hs hw cL (oFill false (to + i) 1 (cDownN to a width way sg i w)))) (wc := (setsW hs hw cL (cDownN to a width way sg i w))) (wr := [(hc, .inr (2, [.ref hs]))]) ⟨hx, hb, hml, hown, hts⟩ (c_S_fill l D hs hw cL (cDownN to a width way sg i w) (to + i) 1 false (by omega)) ⟨callB_of 3 hts (gW wd_45) rfl rfl rfl (hts _ wd_3) (hts _ wd_289) hd_S_fill ⟨Nat.le_of_ble_eq_true rfl, Nat.le_of_ble_eq_true rfl⟩, hts _ wd_43, hts _ wd_44⟩ XT_ok (fun _ _ _ => trivial) hK hP hD hS hA 1 1 rfl rfl rfl [0] [1, 2] [0] [0, 1, 2] rfl rfl rfl rfl rfl (by decide) rfl rfl rfl hl.1 rfl (Nat.le_of_ble_eq_true rfl) d_C_moveDown_75 ⟨Nat.zero_le _, Nat.zero_le _⟩ (st1 := []) rfl (fun H locs hP hD hS => ?_)
        refine lv_iinc (v := nI (i + 1)) (lv' := [(6, .int (nI (i + 1))), (0, .ref hc), (1, .int (nI to)), (2, .int (nI a)), (3, .int (nI width)), (4, .int (nI way)), (5, .int (bI sg))]) hx hb d_C_moveDown_78 hl (k := 0) rfl (by rw [← nI_1]; rfl) (by decide) rfl (fun ls hl => ?_)
        refine lv_goto (tgt := 3) hx hb d_C_moveDown_81 (by decide) ?_
        exact ih _ _ _ (by omega) ⟨by rw [show cDownN to a width way sg (i + 1) w = oFill false (to + i) 1 (cDownN to a width way sg i w) from (if_neg (by omega)).trans (if_neg (by rw [c_42]; decide))]; exact hP, by rw [show cDownN to a width way sg (i + 1) w = oFill false (to + i) 1 (cDownN to a width way sg i w) from (if_neg (by omega)).trans (if_neg (by rw [c_42]; decide))]; exact hD, hS, lv_sub hl [0, 1, 2, 3, 4, 5, 6] rfl⟩
      · refine lv_aload_n hx hb d_C_moveDown_45 rfl (lv_at hl 1 rfl) ?_
        refine va_get (D := D) (ci := 2) (v := .ref hs) (C := R_C) (T := F_C) (N := 1) hx hb hts in_C hown hK hP 0 rfl rfl 0 (by decide) (hts _ wd_37) (fun _ h9 => h9) rfl d_C_moveDown_46 ?_
        refine lv_iload_n hx hb d_C_moveDown_49 rfl (lv_at hl 2 rfl) ?_
        refine lv_iload hx hb d_C_moveDown_50 (lv_at hl 0 rfl) ?_
        refine n_add hx hb d_C_moveDown_52 ?_
        refine lv_iload_n hx hb d_C_moveDown_53 rfl (lv_at hl 3 rfl) ?_
        refine lv_iload_n hx hb d_C_moveDown_54 rfl (lv_at hl 4 rfl) ?_
        refine n_add hx hb d_C_moveDown_55 ?_
        refine lv_iconst (v := nI 1) hx hb d_C_moveDown_56 (by decide) ?_
        refine n_sub hx hb (by omega) d_C_moveDown_57 ?_
        refine lv_iconst (v := nI 1) hx hb d_C_moveDown_58 (by decide) ?_
        refine fn_V (ws' := (circW hc hs hw cL (oCopy (to + i) ((a + width) - 1) 1 (cDownN to a width way sg i w)))) (w1 := (setsW hs hw cL (oCopy (to + i) ((a + width) - 1) 1 (cDownN to a width way sg i w)))) (wc := (setsW hs hw cL (cDownN to a width way sg i w))) (wr := [(hc, .inr (2, [.ref hs]))]) ⟨hx, hb, hml, hown, hts⟩ (c_S_copy l D hs hw cL (cDownN to a width way sg i w) (to + i) ((a + width) - 1) 1 (by omega) (by omega) (by omega)) ⟨callB_of 3 hts (gW wd_130) rfl rfl rfl (hts _ wd_3) (hts _ wd_330) hd_S_copy ⟨Nat.le_of_ble_eq_true rfl, Nat.le_of_ble_eq_true rfl⟩, hts _ wd_128, hts _ wd_129⟩ XT_ok (fun _ _ _ => trivial) hK hP hD hS hA 1 1 rfl rfl rfl [0] [1, 2] [0] [0, 1, 2] rfl rfl rfl rfl rfl (by decide) rfl rfl rfl hl.1 rfl (Nat.le_of_ble_eq_true rfl) d_C_moveDown_59 ⟨Nat.zero_le _, Nat.zero_le _⟩ (st1 := []) rfl (fun H locs hP hD hS => ?_)
        refine lv_goto (tgt := 78) hx hb d_C_moveDown_62 (by decide) ?_
        refine lv_iinc (v := nI (i + 1)) (lv' := [(6, .int (nI (i + 1))), (0, .ref hc), (1, .int (nI to)), (2, .int (nI a)), (3, .int (nI width)), (4, .int (nI way)), (5, .int (bI sg))]) hx hb d_C_moveDown_78 hl (k := 0) rfl (by rw [← nI_1]; rfl) (by decide) rfl (fun ls hl => ?_)
        refine lv_goto (tgt := 3) hx hb d_C_moveDown_81 (by decide) ?_
        exact ih _ _ _ (by omega) ⟨by rw [show cDownN to a width way sg (i + 1) w = oCopy (to + i) ((a + width) - 1) 1 (cDownN to a width way sg i w) from (if_neg (by omega)).trans (if_pos c_42)]; exact hP, by rw [show cDownN to a width way sg (i + 1) w = oCopy (to + i) ((a + width) - 1) 1 (cDownN to a width way sg i w) from (if_neg (by omega)).trans (if_pos c_42)]; exact hD, hS, lv_sub hl [0, 1, 2, 3, 4, 5, 6] rfl⟩
    · refine lv_aload_n hx hb d_C_moveDown_18 rfl (lv_at hl 1 rfl) ?_
      refine va_get (D := D) (ci := 2) (v := .ref hs) (C := R_C) (T := F_C) (N := 1) hx hb hts in_C hown hK hP 0 rfl rfl 0 (by decide) (hts _ wd_37) (fun _ h9 => h9) rfl d_C_moveDown_19 ?_
      refine lv_iload_n hx hb d_C_moveDown_22 rfl (lv_at hl 2 rfl) ?_
      refine lv_iload hx hb d_C_moveDown_23 (lv_at hl 0 rfl) ?_
      refine n_add hx hb d_C_moveDown_25 ?_
      refine lv_iload_n hx hb d_C_moveDown_26 rfl (lv_at hl 3 rfl) ?_
      refine lv_iload hx hb d_C_moveDown_27 (lv_at hl 0 rfl) ?_
      refine n_add hx hb d_C_moveDown_29 ?_
      refine lv_iload hx hb d_C_moveDown_30 (lv_at hl 5 rfl) ?_
      refine n_add hx hb d_C_moveDown_32 ?_
      refine lv_iconst (v := nI 1) hx hb d_C_moveDown_33 (by decide) ?_
      refine fn_V (ws' := (circW hc hs hw cL (oCopy (to + i) ((a + i) + way) 1 (cDownN to a width way sg i w)))) (w1 := (setsW hs hw cL (oCopy (to + i) ((a + i) + way) 1 (cDownN to a width way sg i w)))) (wc := (setsW hs hw cL (cDownN to a width way sg i w))) (wr := [(hc, .inr (2, [.ref hs]))]) ⟨hx, hb, hml, hown, hts⟩ (c_S_copy l D hs hw cL (cDownN to a width way sg i w) (to + i) ((a + i) + way) 1 (by omega) (by omega) (by omega)) ⟨callB_of 3 hts (gW wd_130) rfl rfl rfl (hts _ wd_3) (hts _ wd_330) hd_S_copy ⟨Nat.le_of_ble_eq_true rfl, Nat.le_of_ble_eq_true rfl⟩, hts _ wd_128, hts _ wd_129⟩ XT_ok (fun _ _ _ => trivial) hK hP hD hS hA 1 1 rfl rfl rfl [0] [1, 2] [0] [0, 1, 2] rfl rfl rfl rfl rfl (by decide) rfl rfl rfl hl.1 rfl (Nat.le_of_ble_eq_true rfl) d_C_moveDown_34 ⟨Nat.zero_le _, Nat.zero_le _⟩ (st1 := []) rfl (fun H locs hP hD hS => ?_)
      refine lv_goto (tgt := 78) hx hb d_C_moveDown_37 (by decide) ?_
      refine lv_iinc (v := nI (i + 1)) (lv' := [(6, .int (nI (i + 1))), (0, .ref hc), (1, .int (nI to)), (2, .int (nI a)), (3, .int (nI width)), (4, .int (nI way)), (5, .int (bI sg))]) hx hb d_C_moveDown_78 hl (k := 0) rfl (by rw [← nI_1]; rfl) (by decide) rfl (fun ls hl => ?_)
      refine lv_goto (tgt := 3) hx hb d_C_moveDown_81 (by decide) ?_
      exact ih _ _ _ (by omega) ⟨by rw [show cDownN to a width way sg (i + 1) w = oCopy (to + i) ((a + i) + way) 1 (cDownN to a width way sg i w) from if_pos (by omega)]; exact hP, by rw [show cDownN to a width way sg (i + 1) w = oCopy (to + i) ((a + i) + way) 1 (cDownN to a width way sg i w) from if_pos (by omega)]; exact hD, hS, lv_sub hl [0, 1, 2, 3, 4, 5, 6] rfl⟩
set_option maxHeartbeats 4000000 in
set_option maxRecDepth 100000 in
theorem c_C_choice (l : Launch) (D : va_G) (hc hs hw : Nat) (cL : ClassId) (w : Nat → Int64) (to cd ye no width : Nat)  (h1 : to + width ≤ 260) (h2 : cd + 1 ≤ 260) (h3 : ye + width ≤ 260) (h4 : no + width ≤ 260) : Fn l y_C_choice (wk y_C_choice b_C_choice 7 none) rm_C_choice D cls [(cL, .long)] [.ref hc, .int (nI to), .int (nI cd), .int (nI ye), .int (nI no), .int (nI width)] (circW hc hs hw cL w) XT none (circW hc hs hw cL (cChoN to cd ye no width w)) := by
  refine Fn.of (by decide) rfl (Nat.le_of_ble_eq_true rfl) ?_
  intro p e s m below meth c A ls hx hb hml hr hts0 hown hlocks hnm hP hK hD hS hA hAe hX hl
  have hts : ∀ w ∈ lw_ok, w.before _ s = true := fun w h => hts0 w (List.mem_cons_of_mem _ h)
  have hown : s.vm.findClass R_C = some m.cls := hown
  have hP : va_P D cls (circW hc hs hw cL w) s.heap := hP
  have hl : lv_has ls 7 [(0, .ref hc), (1, .int (nI to)), (2, .int (nI cd)), (3, .int (nI ye)), (4, .int (nI no)), (5, .int (nI width))] := hl
  refine lv_iconst (v := nI 0) hx hb d_C_choice_0 (by decide) ?_
  refine lv_istore (lv' := [(6, .int (nI 0)), (0, .ref hc), (1, .int (nI to)), (2, .int (nI cd)), (3, .int (nI ye)), (4, .int (nI no)), (5, .int (nI width))]) hx hb d_C_choice_1 hl (by decide) rfl (fun ls hl => ?_)
  refine w_loop 3 [] (width) (fun i H locs ls => va_P D cls (circW hc hs hw cL (cChoN to cd ye no i w)) H ∧ va_D A (circW hc hs hw cL (cChoN to cd ye no i w)) ∧ va_S A s.heap H locs ∧ lv_has ls 7 [(6, .int (nI i)), (0, .ref hc), (1, .int (nI to)), (2, .int (nI cd)), (3, .int (nI ye)), (4, .int (nI no)), (5, .int (nI width))]) ?_ 0 (Nat.zero_le _) _ _ ls ⟨hP, hD, hS, lv_sub hl [0, 1, 2, 3, 4, 5, 6] rfl⟩
  intro i hi ih H locs ls ⟨hP, hD, hS, hl⟩
  refine lv_iload hx hb d_C_choice_3 (lv_at hl 0 rfl) ?_
  refine lv_iload hx hb d_C_choice_5 (lv_at hl 6 rfl) ?_
  refine z_icmp_ge (tgt := 37) hx hb (nI_toInt (by omega)) (nI_toInt (by omega)) d_C_choice_7 (by decide) (fun c_7 => ?_) (fun c_7 => ?_)
  · obtain rfl : width = i := by omega
    exact fn_vret hx hb hr hlocks hAe hK hP hD hS d_C_choice_37
  · refine lv_aload_n hx hb d_C_choice_10 rfl (lv_at hl 1 rfl) ?_
    refine va_get (D := D) (ci := 2) (v := .ref hs) (C := R_C) (T := F_C) (N := 1) hx hb hts in_C hown hK hP 0 rfl rfl 0 (by decide) (hts _ wd_37) (fun _ h9 => h9) rfl d_C_choice_11 ?_
    refine lv_iload_n hx hb d_C_choice_14 rfl (lv_at hl 2 rfl) ?_
    refine lv_iload hx hb d_C_choice_15 (lv_at hl 0 rfl) ?_
    refine n_add hx hb d_C_choice_17 ?_
    refine lv_iload_n hx hb d_C_choice_18 rfl (lv_at hl 3 rfl) ?_
    refine lv_iload_n hx hb d_C_choice_19 rfl (lv_at hl 4 rfl) ?_
    refine lv_iload hx hb d_C_choice_20 (lv_at hl 0 rfl) ?_
    refine n_add hx hb d_C_choice_22 ?_
    refine lv_iload hx hb d_C_choice_23 (lv_at hl 5 rfl) ?_
    refine lv_iload hx hb d_C_choice_25 (lv_at hl 0 rfl) ?_
    refine n_add hx hb d_C_choice_27 ?_
    refine fn_V (ws' := (circW hc hs hw cL (oChoose (to + i) cd (ye + i) (no + i) (cChoN to cd ye no i w)))) (w1 := (setsW hs hw cL (oChoose (to + i) cd (ye + i) (no + i) (cChoN to cd ye no i w)))) (wc := (setsW hs hw cL (cChoN to cd ye no i w))) (wr := [(hc, .inr (2, [.ref hs]))]) ⟨hx, hb, hml, hown, hts⟩ (c_S_choose l D hs hw cL (cChoN to cd ye no i w) (to + i) cd (ye + i) (no + i) (by omega) (by omega) (by omega) (by omega) (by omega) (by omega) (by omega)) ⟨callB_of 4 hts (gW wd_342) rfl rfl rfl (hts _ wd_3) (hts _ wd_339) hd_S_choose ⟨Nat.le_of_ble_eq_true rfl, Nat.le_of_ble_eq_true rfl⟩, hts _ wd_340, hts _ wd_341⟩ XT_ok (fun _ _ _ => trivial) hK hP hD hS hA 1 1 rfl rfl rfl [0] [1, 2] [0] [0, 1, 2] rfl rfl rfl rfl rfl (by decide) rfl rfl rfl hl.1 rfl (Nat.le_of_ble_eq_true rfl) d_C_choice_28 ⟨Nat.zero_le _, Nat.zero_le _⟩ (st1 := []) rfl (fun H locs hP hD hS => ?_)
    refine lv_iinc (v := nI (i + 1)) (lv' := [(6, .int (nI (i + 1))), (0, .ref hc), (1, .int (nI to)), (2, .int (nI cd)), (3, .int (nI ye)), (4, .int (nI no)), (5, .int (nI width))]) hx hb d_C_choice_31 hl (k := 0) rfl (by rw [← nI_1]; rfl) (by decide) rfl (fun ls hl => ?_)
    refine lv_goto (tgt := 3) hx hb d_C_choice_34 (by decide) ?_
    exact ih _ _ _ (by omega) ⟨hP, hD, hS, lv_sub hl [0, 1, 2, 3, 4, 5, 6] rfl⟩
set_option maxHeartbeats 4000000 in
set_option maxRecDepth 100000 in
theorem c_C_equal (l : Launch) (D : va_G) (hc hs hw : Nat) (cL : ClassId) (w : Nat → Int64) (to a b width : Nat)  (h1 : to + 1 ≤ 260) (h2 : a + width ≤ 260) (h3 : b + width ≤ 260) : Fn l y_C_equal (wk y_C_equal b_C_equal 6 none) rm_C_equal D cls [(cL, .long)] [.ref hc, .int (nI to), .int (nI a), .int (nI b), .int (nI width)] (circW hc hs hw cL w) XT none (circW hc hs hw cL (cEq to a b width w)) := by
  refine Fn.of (by decide) rfl (Nat.le_of_ble_eq_true rfl) ?_
  intro p e s m below meth c A ls hx hb hml hr hts0 hown hlocks hnm hP hK hD hS hA hAe hX hl
  have hts : ∀ w ∈ lw_ok, w.before _ s = true := fun w h => hts0 w (List.mem_cons_of_mem _ h)
  have hown : s.vm.findClass R_C = some m.cls := hown
  have hP : va_P D cls (circW hc hs hw cL w) s.heap := hP
  have hl : lv_has ls 6 [(0, .ref hc), (1, .int (nI to)), (2, .int (nI a)), (3, .int (nI b)), (4, .int (nI width))] := hl
  refine lv_aload_n hx hb d_C_equal_0 rfl (lv_at hl 0 rfl) ?_
  refine va_get (D := D) (ci := 2) (v := .ref hs) (C := R_C) (T := F_C) (N := 1) hx hb hts in_C hown hK hP 0 rfl rfl 0 (by decide) (hts _ wd_37) (fun _ h9 => h9) rfl d_C_equal_1 ?_
  refine lv_iload_n hx hb d_C_equal_4 rfl (lv_at hl 1 rfl) ?_
  refine lv_iconst (v := nI 1) hx hb d_C_equal_5 (by decide) ?_
  refine lv_iconst (v := nI 1) hx hb d_C_equal_6 (by decide) ?_
  refine fn_V (ws' := (circW hc hs hw cL (oFill true to 1 w))) (w1 := (setsW hs hw cL (oFill true to 1 w))) (wc := (setsW hs hw cL w)) (wr := [(hc, .inr (2, [.ref hs]))]) ⟨hx, hb, hml, hown, hts⟩ (c_S_fill l D hs hw cL w to 1 true (by omega)) ⟨callB_of 3 hts (gW wd_45) rfl rfl rfl (hts _ wd_3) (hts _ wd_289) hd_S_fill ⟨Nat.le_of_ble_eq_true rfl, Nat.le_of_ble_eq_true rfl⟩, hts _ wd_43, hts _ wd_44⟩ XT_ok (fun _ _ _ => trivial) hK hP hD hS hA 1 1 rfl rfl rfl [0] [1, 2] [0] [0, 1, 2] rfl rfl rfl rfl rfl (by decide) rfl rfl rfl hl.1 rfl (Nat.le_of_ble_eq_true rfl) d_C_equal_7 ⟨Nat.zero_le _, Nat.zero_le _⟩ (st1 := []) rfl (fun H locs hP hD hS => ?_)
  refine lv_iconst (v := nI 0) hx hb d_C_equal_10 (by decide) ?_
  refine lv_istore (lv' := [(5, .int (nI 0)), (0, .ref hc), (1, .int (nI to)), (2, .int (nI a)), (3, .int (nI b)), (4, .int (nI width))]) hx hb d_C_equal_11 hl (by decide) rfl (fun ls hl => ?_)
  refine w_loop 13 [] (width) (fun i H locs ls => va_P D cls (circW hc hs hw cL (cEqN to a b i (oFill true to 1 w))) H ∧ va_D A (circW hc hs hw cL (cEqN to a b i (oFill true to 1 w))) ∧ va_S A s.heap H locs ∧ lv_has ls 6 [(5, .int (nI i)), (0, .ref hc), (1, .int (nI to)), (2, .int (nI a)), (3, .int (nI b)), (4, .int (nI width))]) ?_ 0 (Nat.zero_le _) _ _ ls ⟨hP, hD, hS, lv_sub hl [0, 1, 2, 3, 4, 5] rfl⟩
  intro i hi ih H locs ls ⟨hP, hD, hS, hl⟩
  refine lv_iload hx hb d_C_equal_13 (lv_at hl 0 rfl) ?_
  refine lv_iload hx hb d_C_equal_15 (lv_at hl 5 rfl) ?_
  refine z_icmp_ge (tgt := 56) hx hb (nI_toInt (by omega)) (nI_toInt (by omega)) d_C_equal_17 (by decide) (fun c_17 => ?_) (fun c_17 => ?_)
  · obtain rfl : width = i := by omega
    exact fn_vret hx hb hr hlocks hAe hK hP hD hS d_C_equal_56
  · refine lv_aload_n hx hb d_C_equal_20 rfl (lv_at hl 1 rfl) ?_
    refine va_get (D := D) (ci := 2) (v := .ref hs) (C := R_C) (T := F_C) (N := 1) hx hb hts in_C hown hK hP 0 rfl rfl 0 (by decide) (hts _ wd_37) (fun _ h9 => h9) rfl d_C_equal_21 ?_
    refine lv_sipush (v := nI 256) hx hb d_C_equal_24 (by decide) ?_
    refine lv_iload_n hx hb d_C_equal_27 rfl (lv_at hl 3 rfl) ?_
    refine lv_iload hx hb d_C_equal_28 (lv_at hl 0 rfl) ?_
    refine n_add hx hb d_C_equal_30 ?_
    refine lv_iload_n hx hb d_C_equal_31 rfl (lv_at hl 4 rfl) ?_
    refine lv_iload hx hb d_C_equal_32 (lv_at hl 0 rfl) ?_
    refine n_add hx hb d_C_equal_34 ?_
    refine lv_iconst (v := nI 1) hx hb d_C_equal_35 (by decide) ?_
    refine fn_V (ws' := (circW hc hs hw cL (oXor 256 (a + i) (b + i) 1 (cEqN to a b i (oFill true to 1 w))))) (w1 := (setsW hs hw cL (oXor 256 (a + i) (b + i) 1 (cEqN to a b i (oFill true to 1 w))))) (wc := (setsW hs hw cL (cEqN to a b i (oFill true to 1 w)))) (wr := [(hc, .inr (2, [.ref hs]))]) ⟨hx, hb, hml, hown, hts⟩ (c_S_exclusive l D hs hw cL (cEqN to a b i (oFill true to 1 w)) 256 (a + i) (b + i) 1 (by omega) (by omega) (by omega) (by omega) (by omega)) ⟨callB_of 4 hts (gW wd_297) rfl rfl rfl (hts _ wd_3) (hts _ wd_294) hd_S_exclusive ⟨Nat.le_of_ble_eq_true rfl, Nat.le_of_ble_eq_true rfl⟩, hts _ wd_295, hts _ wd_296⟩ XT_ok (fun _ _ _ => trivial) hK hP hD hS hA 1 1 rfl rfl rfl [0] [1, 2] [0] [0, 1, 2] rfl rfl rfl rfl rfl (by decide) rfl rfl rfl hl.1 rfl (Nat.le_of_ble_eq_true rfl) d_C_equal_36 ⟨Nat.zero_le _, Nat.zero_le _⟩ (st1 := []) rfl (fun H locs hP hD hS => ?_)
    refine lv_aload_n hx hb d_C_equal_39 rfl (lv_at hl 1 rfl) ?_
    refine va_get (D := D) (ci := 2) (v := .ref hs) (C := R_C) (T := F_C) (N := 1) hx hb hts in_C hown hK hP 0 rfl rfl 0 (by decide) (hts _ wd_37) (fun _ h9 => h9) rfl d_C_equal_40 ?_
    refine lv_iload_n hx hb d_C_equal_43 rfl (lv_at hl 2 rfl) ?_
    refine lv_sipush (v := nI 256) hx hb d_C_equal_44 (by decide) ?_
    refine fn_V (ws' := (circW hc hs hw cL (oRemove to 256 (oXor 256 (a + i) (b + i) 1 (cEqN to a b i (oFill true to 1 w)))))) (w1 := (setsW hs hw cL (oRemove to 256 (oXor 256 (a + i) (b + i) 1 (cEqN to a b i (oFill true to 1 w)))))) (wc := (setsW hs hw cL (oXor 256 (a + i) (b + i) 1 (cEqN to a b i (oFill true to 1 w))))) (wr := [(hc, .inr (2, [.ref hs]))]) ⟨hx, hb, hml, hown, hts⟩ (c_S_remove l D hs hw cL (oXor 256 (a + i) (b + i) 1 (cEqN to a b i (oFill true to 1 w))) to 256 (by omega) (by omega) (by omega)) ⟨callB_of 2 hts (gW wd_365) rfl rfl rfl (hts _ wd_3) (hts _ wd_362) hd_S_remove ⟨Nat.le_of_ble_eq_true rfl, Nat.le_of_ble_eq_true rfl⟩, hts _ wd_363, hts _ wd_364⟩ XT_ok (fun _ _ _ => trivial) hK hP hD hS hA 1 1 rfl rfl rfl [0] [1, 2] [0] [0, 1, 2] rfl rfl rfl rfl rfl (by decide) rfl rfl rfl hl.1 rfl (Nat.le_of_ble_eq_true rfl) d_C_equal_47 ⟨Nat.zero_le _, Nat.zero_le _⟩ (st1 := []) rfl (fun H locs hP hD hS => ?_)
    refine lv_iinc (v := nI (i + 1)) (lv' := [(5, .int (nI (i + 1))), (0, .ref hc), (1, .int (nI to)), (2, .int (nI a)), (3, .int (nI b)), (4, .int (nI width))]) hx hb d_C_equal_50 hl (k := 0) rfl (by rw [← nI_1]; rfl) (by decide) rfl (fun ls hl => ?_)
    refine lv_goto (tgt := 13) hx hb d_C_equal_53 (by decide) ?_
    exact ih _ _ _ (by omega) ⟨hP, hD, hS, lv_sub hl [0, 1, 2, 3, 4, 5] rfl⟩
set_option maxHeartbeats 4000000 in
set_option maxRecDepth 100000 in
theorem c_C_less (l : Launch) (D : va_G) (hc hs hw : Nat) (cL : ClassId) (w : Nat → Int64) (to a b width : Nat) (sg : Bool) (h1 : to + 1 ≤ 260) (h2 : a + width ≤ 260) (h3 : b + width ≤ 260) : Fn l y_C_less (wk y_C_less b_C_less 8 none) rm_C_less D cls [(cL, .long)] [.ref hc, .int (nI to), .int (nI a), .int (nI b), .int (nI width), .int (bI sg)] (circW hc hs hw cL w) XT none (circW hc hs hw cL (cLess to a b width sg w)) := by
  refine Fn.of (by decide) rfl (Nat.le_of_ble_eq_true rfl) ?_
  intro p e s m below meth c A ls hx hb hml hr hts0 hown hlocks hnm hP hK hD hS hA hAe hX hl
  have hts : ∀ w ∈ lw_ok, w.before _ s = true := fun w h => hts0 w (List.mem_cons_of_mem _ h)
  have hown : s.vm.findClass R_C = some m.cls := hown
  have hP : va_P D cls (circW hc hs hw cL w) s.heap := hP
  have hl : lv_has ls 8 [(0, .ref hc), (1, .int (nI to)), (2, .int (nI a)), (3, .int (nI b)), (4, .int (nI width)), (5, .int (bI sg))] := hl
  refine lv_aload_n hx hb d_C_less_0 rfl (lv_at hl 0 rfl) ?_
  refine va_get (D := D) (ci := 2) (v := .ref hs) (C := R_C) (T := F_C) (N := 1) hx hb hts in_C hown hK hP 0 rfl rfl 0 (by decide) (hts _ wd_37) (fun _ h9 => h9) rfl d_C_less_1 ?_
  refine lv_iload_n hx hb d_C_less_4 rfl (lv_at hl 1 rfl) ?_
  refine lv_iconst (v := nI 1) hx hb d_C_less_5 (by decide) ?_
  refine lv_iconst (v := nI 0) hx hb d_C_less_6 (by decide) ?_
  refine fn_V (ws' := (circW hc hs hw cL (oFill false to 1 w))) (w1 := (setsW hs hw cL (oFill false to 1 w))) (wc := (setsW hs hw cL w)) (wr := [(hc, .inr (2, [.ref hs]))]) ⟨hx, hb, hml, hown, hts⟩ (c_S_fill l D hs hw cL w to 1 false (by omega)) ⟨callB_of 3 hts (gW wd_45) rfl rfl rfl (hts _ wd_3) (hts _ wd_289) hd_S_fill ⟨Nat.le_of_ble_eq_true rfl, Nat.le_of_ble_eq_true rfl⟩, hts _ wd_43, hts _ wd_44⟩ XT_ok (fun _ _ _ => trivial) hK hP hD hS hA 1 1 rfl rfl rfl [0] [1, 2] [0] [0, 1, 2] rfl rfl rfl rfl rfl (by decide) rfl rfl rfl hl.1 rfl (Nat.le_of_ble_eq_true rfl) d_C_less_7 ⟨Nat.zero_le _, Nat.zero_le _⟩ (st1 := []) rfl (fun H locs hP hD hS => ?_)
  refine lv_iconst (v := nI 0) hx hb d_C_less_10 (by decide) ?_
  refine lv_istore (lv' := [(6, .int (nI 0)), (0, .ref hc), (1, .int (nI to)), (2, .int (nI a)), (3, .int (nI b)), (4, .int (nI width)), (5, .int (bI sg))]) hx hb d_C_less_11 hl (by decide) rfl (fun ls hl => ?_)
  refine w_loop 13 [] (width) (fun i H locs ls => va_P D cls (circW hc hs hw cL (cLessN to a b width sg i (oFill false to 1 w))) H ∧ va_D A (circW hc hs hw cL (cLessN to a b width sg i (oFill false to 1 w))) ∧ va_S A s.heap H locs ∧ lv_has ls 8 [(6, .int (nI i)), (0, .ref hc), (1, .int (nI to)), (2, .int (nI a)), (3, .int (nI b)), (4, .int (nI width)), (5, .int (bI sg))]) ?_ 0 (Nat.zero_le _) _ _ ls ⟨hP, hD, hS, lv_sub hl [0, 1, 2, 3, 4, 5, 6] rfl⟩
  intro i hi ih H locs ls ⟨hP, hD, hS, hl⟩
  refine lv_iload hx hb d_C_less_13 (lv_at hl 0 rfl) ?_
  refine lv_iload hx hb d_C_less_15 (lv_at hl 5 rfl) ?_
  refine z_icmp_ge (tgt := 94) hx hb (nI_toInt (by omega)) (nI_toInt (by omega)) d_C_less_17 (by decide) (fun c_17 => ?_) (fun c_17 => ?_)
  · obtain rfl : width = i := by omega
    exact fn_vret hx hb hr hlocks hAe hK hP hD hS d_C_less_94
  · refine lv_aload_n hx hb d_C_less_20 rfl (lv_at hl 1 rfl) ?_
    refine va_get (D := D) (ci := 2) (v := .ref hs) (C := R_C) (T := F_C) (N := 1) hx hb hts in_C hown hK hP 0 rfl rfl 0 (by decide) (hts _ wd_37) (fun _ h9 => h9) rfl d_C_less_21 ?_
    refine lv_sipush (v := nI 256) hx hb d_C_less_24 (by decide) ?_
    refine lv_iload_n hx hb d_C_less_27 rfl (lv_at hl 3 rfl) ?_
    refine lv_iload hx hb d_C_less_28 (lv_at hl 0 rfl) ?_
    refine n_add hx hb d_C_less_30 ?_
    refine lv_iload_n hx hb d_C_less_31 rfl (lv_at hl 4 rfl) ?_
    refine lv_iload hx hb d_C_less_32 (lv_at hl 0 rfl) ?_
    refine n_add hx hb d_C_less_34 ?_
    refine lv_iconst (v := nI 1) hx hb d_C_less_35 (by decide) ?_
    refine fn_V (ws' := (circW hc hs hw cL (oXor 256 (a + i) (b + i) 1 (cLessN to a b width sg i (oFill false to 1 w))))) (w1 := (setsW hs hw cL (oXor 256 (a + i) (b + i) 1 (cLessN to a b width sg i (oFill false to 1 w))))) (wc := (setsW hs hw cL (cLessN to a b width sg i (oFill false to 1 w)))) (wr := [(hc, .inr (2, [.ref hs]))]) ⟨hx, hb, hml, hown, hts⟩ (c_S_exclusive l D hs hw cL (cLessN to a b width sg i (oFill false to 1 w)) 256 (a + i) (b + i) 1 (by omega) (by omega) (by omega) (by omega) (by omega)) ⟨callB_of 4 hts (gW wd_297) rfl rfl rfl (hts _ wd_3) (hts _ wd_294) hd_S_exclusive ⟨Nat.le_of_ble_eq_true rfl, Nat.le_of_ble_eq_true rfl⟩, hts _ wd_295, hts _ wd_296⟩ XT_ok (fun _ _ _ => trivial) hK hP hD hS hA 1 1 rfl rfl rfl [0] [1, 2] [0] [0, 1, 2] rfl rfl rfl rfl rfl (by decide) rfl rfl rfl hl.1 rfl (Nat.le_of_ble_eq_true rfl) d_C_less_36 ⟨Nat.zero_le _, Nat.zero_le _⟩ (st1 := []) rfl (fun H locs hP hD hS => ?_)
    refine lv_iload hx hb d_C_less_39 (lv_at hl 6 rfl) ?_
    refine b_if_eq (tgt := 57) hx hb d_C_less_41 (by decide) (fun c_41 => ?_) (fun c_41 => ?_)
    · refine lv_iconst (v := nI 0) hx hb d_C_less_57 (by decide) ?_
      refine lv_istore (lv' := [(7, .int (nI 0)), (6, .int (nI i)), (0, .ref hc), (1, .int (nI to)), (2, .int (nI a)), (3, .int (nI b)), (4, .int (nI width)), (5, .int (bI sg))]) hx hb d_C_less_58 hl (by decide) rfl (fun ls hl => ?_)
      refine lv_aload_n hx hb d_C_less_60 rfl (lv_at hl 2 rfl) ?_
      refine va_get (D := D) (ci := 2) (v := .ref hs) (C := R_C) (T := F_C) (N := 1) hx hb hts in_C hown hK hP 0 rfl rfl 0 (by decide) (hts _ wd_37) (fun _ h9 => h9) rfl d_C_less_61 ?_
      refine lv_iload_n hx hb d_C_less_64 rfl (lv_at hl 3 rfl) ?_
      refine lv_sipush (v := nI 256) hx hb d_C_less_65 (by decide) ?_
      refine lv_iload hx hb d_C_less_68 (lv_at hl 0 rfl) ?_
      refine z_if_eq (tgt := 80) hx hb (nI_toInt (by omega)) d_C_less_70 (by decide) (fun c_70 => ?_) (fun c_70 => ?_)
      · refine lv_iload_n hx hb d_C_less_80 rfl (lv_at hl 5 rfl) ?_
        refine lv_iload hx hb d_C_less_81 (lv_at hl 1 rfl) ?_
        refine n_add hx hb d_C_less_83 ?_
        refine lv_iload_n hx hb d_C_less_84 rfl (lv_at hl 3 rfl) ?_
        refine fn_V (ws' := (circW hc hs hw cL (oChoose to 256 (b + i) to (oXor 256 (a + i) (b + i) 1 (cLessN to a b width sg i (oFill false to 1 w)))))) (w1 := (setsW hs hw cL (oChoose to 256 (b + i) to (oXor 256 (a + i) (b + i) 1 (cLessN to a b width sg i (oFill false to 1 w)))))) (wc := (setsW hs hw cL (oXor 256 (a + i) (b + i) 1 (cLessN to a b width sg i (oFill false to 1 w))))) (wr := [(hc, .inr (2, [.ref hs]))]) ⟨hx, hb, hml, hown, hts⟩ (c_S_choose l D hs hw cL (oXor 256 (a + i) (b + i) 1 (cLessN to a b width sg i (oFill false to 1 w))) to 256 (b + i) to (by omega) (by omega) (by omega) (by omega) (by omega) (by omega) (by omega)) ⟨callB_of 4 hts (gW wd_342) rfl rfl rfl (hts _ wd_3) (hts _ wd_339) hd_S_choose ⟨Nat.le_of_ble_eq_true rfl, Nat.le_of_ble_eq_true rfl⟩, hts _ wd_340, hts _ wd_341⟩ XT_ok (fun _ _ _ => trivial) hK hP hD hS hA 1 1 rfl rfl rfl [0] [1, 2] [0] [0, 1, 2] rfl rfl rfl rfl rfl (by decide) rfl rfl rfl hl.1 rfl (Nat.le_of_ble_eq_true rfl) d_C_less_85 ⟨Nat.zero_le _, Nat.zero_le _⟩ (st1 := []) rfl (fun H locs hP hD hS => ?_)
        refine lv_iinc (v := nI (i + 1)) (lv' := [(6, .int (nI (i + 1))), (7, .int (nI 0)), (0, .ref hc), (1, .int (nI to)), (2, .int (nI a)), (3, .int (nI b)), (4, .int (nI width)), (5, .int (bI sg))]) hx hb d_C_less_88 hl (k := 1) rfl (by rw [← nI_1]; rfl) (by decide) rfl (fun ls hl => ?_)
        refine lv_goto (tgt := 13) hx hb d_C_less_91 (by decide) ?_
        exact ih _ _ _ (by omega) ⟨by rw [show cLessN to a b width sg (i + 1) (oFill false to 1 w) = oChoose to 256 (b + i) to (oXor 256 (a + i) (b + i) 1 (cLessN to a b width sg i (oFill false to 1 w))) from congrArg (fun z => oChoose to 256 z to (oXor 256 (a + i) (b + i) 1 (cLessN to a b width sg i (oFill false to 1 w)))) (if_neg (fun q => by rw [c_41] at q; exact absurd q.1 (by decide)))]; exact hP, by rw [show cLessN to a b width sg (i + 1) (oFill false to 1 w) = oChoose to 256 (b + i) to (oXor 256 (a + i) (b + i) 1 (cLessN to a b width sg i (oFill false to 1 w))) from congrArg (fun z => oChoose to 256 z to (oXor 256 (a + i) (b + i) 1 (cLessN to a b width sg i (oFill false to 1 w)))) (if_neg (fun q => by rw [c_41] at q; exact absurd q.1 (by decide)))]; exact hD, hS, lv_sub hl [0, 2, 3, 4, 5, 6, 7] rfl⟩
      · exact absurd c_70 (by omega)
    · refine lv_iload hx hb d_C_less_44 (lv_at hl 0 rfl) ?_
      refine lv_iload hx hb d_C_less_46 (lv_at hl 5 rfl) ?_
      refine lv_iconst (v := nI 1) hx hb d_C_less_48 (by decide) ?_
      refine n_sub hx hb (by omega) d_C_less_49 ?_
      refine z_icmp_ne (tgt := 57) hx hb (nI_toInt (by omega)) (nI_toInt (by omega)) d_C_less_50 (by decide) (fun c_50 => ?_) (fun c_50 => ?_)
      · refine lv_iconst (v := nI 0) hx hb d_C_less_57 (by decide) ?_
        refine lv_istore (lv' := [(7, .int (nI 0)), (6, .int (nI i)), (0, .ref hc), (1, .int (nI to)), (2, .int (nI a)), (3, .int (nI b)), (4, .int (nI width)), (5, .int (bI sg))]) hx hb d_C_less_58 hl (by decide) rfl (fun ls hl => ?_)
        refine lv_aload_n hx hb d_C_less_60 rfl (lv_at hl 2 rfl) ?_
        refine va_get (D := D) (ci := 2) (v := .ref hs) (C := R_C) (T := F_C) (N := 1) hx hb hts in_C hown hK hP 0 rfl rfl 0 (by decide) (hts _ wd_37) (fun _ h9 => h9) rfl d_C_less_61 ?_
        refine lv_iload_n hx hb d_C_less_64 rfl (lv_at hl 3 rfl) ?_
        refine lv_sipush (v := nI 256) hx hb d_C_less_65 (by decide) ?_
        refine lv_iload hx hb d_C_less_68 (lv_at hl 0 rfl) ?_
        refine z_if_eq (tgt := 80) hx hb (nI_toInt (by omega)) d_C_less_70 (by decide) (fun c_70 => ?_) (fun c_70 => ?_)
        · refine lv_iload_n hx hb d_C_less_80 rfl (lv_at hl 5 rfl) ?_
          refine lv_iload hx hb d_C_less_81 (lv_at hl 1 rfl) ?_
          refine n_add hx hb d_C_less_83 ?_
          refine lv_iload_n hx hb d_C_less_84 rfl (lv_at hl 3 rfl) ?_
          refine fn_V (ws' := (circW hc hs hw cL (oChoose to 256 (b + i) to (oXor 256 (a + i) (b + i) 1 (cLessN to a b width sg i (oFill false to 1 w)))))) (w1 := (setsW hs hw cL (oChoose to 256 (b + i) to (oXor 256 (a + i) (b + i) 1 (cLessN to a b width sg i (oFill false to 1 w)))))) (wc := (setsW hs hw cL (oXor 256 (a + i) (b + i) 1 (cLessN to a b width sg i (oFill false to 1 w))))) (wr := [(hc, .inr (2, [.ref hs]))]) ⟨hx, hb, hml, hown, hts⟩ (c_S_choose l D hs hw cL (oXor 256 (a + i) (b + i) 1 (cLessN to a b width sg i (oFill false to 1 w))) to 256 (b + i) to (by omega) (by omega) (by omega) (by omega) (by omega) (by omega) (by omega)) ⟨callB_of 4 hts (gW wd_342) rfl rfl rfl (hts _ wd_3) (hts _ wd_339) hd_S_choose ⟨Nat.le_of_ble_eq_true rfl, Nat.le_of_ble_eq_true rfl⟩, hts _ wd_340, hts _ wd_341⟩ XT_ok (fun _ _ _ => trivial) hK hP hD hS hA 1 1 rfl rfl rfl [0] [1, 2] [0] [0, 1, 2] rfl rfl rfl rfl rfl (by decide) rfl rfl rfl hl.1 rfl (Nat.le_of_ble_eq_true rfl) d_C_less_85 ⟨Nat.zero_le _, Nat.zero_le _⟩ (st1 := []) rfl (fun H locs hP hD hS => ?_)
          refine lv_iinc (v := nI (i + 1)) (lv' := [(6, .int (nI (i + 1))), (7, .int (nI 0)), (0, .ref hc), (1, .int (nI to)), (2, .int (nI a)), (3, .int (nI b)), (4, .int (nI width)), (5, .int (bI sg))]) hx hb d_C_less_88 hl (k := 1) rfl (by rw [← nI_1]; rfl) (by decide) rfl (fun ls hl => ?_)
          refine lv_goto (tgt := 13) hx hb d_C_less_91 (by decide) ?_
          exact ih _ _ _ (by omega) ⟨by rw [show cLessN to a b width sg (i + 1) (oFill false to 1 w) = oChoose to 256 (b + i) to (oXor 256 (a + i) (b + i) 1 (cLessN to a b width sg i (oFill false to 1 w))) from congrArg (fun z => oChoose to 256 z to (oXor 256 (a + i) (b + i) 1 (cLessN to a b width sg i (oFill false to 1 w)))) (if_neg (fun q => absurd q.2 (by omega)))]; exact hP, by rw [show cLessN to a b width sg (i + 1) (oFill false to 1 w) = oChoose to 256 (b + i) to (oXor 256 (a + i) (b + i) 1 (cLessN to a b width sg i (oFill false to 1 w))) from congrArg (fun z => oChoose to 256 z to (oXor 256 (a + i) (b + i) 1 (cLessN to a b width sg i (oFill false to 1 w)))) (if_neg (fun q => absurd q.2 (by omega)))]; exact hD, hS, lv_sub hl [0, 2, 3, 4, 5, 6, 7] rfl⟩
        · exact absurd c_70 (by omega)
      · refine lv_iconst (v := nI 1) hx hb d_C_less_53 (by decide) ?_
        refine lv_goto (tgt := 58) hx hb d_C_less_54 (by decide) ?_
        refine lv_istore (lv' := [(7, .int (nI 1)), (6, .int (nI i)), (0, .ref hc), (1, .int (nI to)), (2, .int (nI a)), (3, .int (nI b)), (4, .int (nI width)), (5, .int (bI sg))]) hx hb d_C_less_58 hl (by decide) rfl (fun ls hl => ?_)
        refine lv_aload_n hx hb d_C_less_60 rfl (lv_at hl 2 rfl) ?_
        refine va_get (D := D) (ci := 2) (v := .ref hs) (C := R_C) (T := F_C) (N := 1) hx hb hts in_C hown hK hP 0 rfl rfl 0 (by decide) (hts _ wd_37) (fun _ h9 => h9) rfl d_C_less_61 ?_
        refine lv_iload_n hx hb d_C_less_64 rfl (lv_at hl 3 rfl) ?_
        refine lv_sipush (v := nI 256) hx hb d_C_less_65 (by decide) ?_
        refine lv_iload hx hb d_C_less_68 (lv_at hl 0 rfl) ?_
        refine z_if_eq (tgt := 80) hx hb (nI_toInt (by omega)) d_C_less_70 (by decide) (fun c_70 => ?_) (fun c_70 => ?_)
        · exact absurd c_70 (by omega)
        · refine lv_iload_n hx hb d_C_less_73 rfl (lv_at hl 4 rfl) ?_
          refine lv_iload hx hb d_C_less_74 (lv_at hl 1 rfl) ?_
          refine n_add hx hb d_C_less_76 ?_
          refine lv_goto (tgt := 84) hx hb d_C_less_77 (by decide) ?_
          refine lv_iload_n hx hb d_C_less_84 rfl (lv_at hl 3 rfl) ?_
          refine fn_V (ws' := (circW hc hs hw cL (oChoose to 256 (a + i) to (oXor 256 (a + i) (b + i) 1 (cLessN to a b width sg i (oFill false to 1 w)))))) (w1 := (setsW hs hw cL (oChoose to 256 (a + i) to (oXor 256 (a + i) (b + i) 1 (cLessN to a b width sg i (oFill false to 1 w)))))) (wc := (setsW hs hw cL (oXor 256 (a + i) (b + i) 1 (cLessN to a b width sg i (oFill false to 1 w))))) (wr := [(hc, .inr (2, [.ref hs]))]) ⟨hx, hb, hml, hown, hts⟩ (c_S_choose l D hs hw cL (oXor 256 (a + i) (b + i) 1 (cLessN to a b width sg i (oFill false to 1 w))) to 256 (a + i) to (by omega) (by omega) (by omega) (by omega) (by omega) (by omega) (by omega)) ⟨callB_of 4 hts (gW wd_342) rfl rfl rfl (hts _ wd_3) (hts _ wd_339) hd_S_choose ⟨Nat.le_of_ble_eq_true rfl, Nat.le_of_ble_eq_true rfl⟩, hts _ wd_340, hts _ wd_341⟩ XT_ok (fun _ _ _ => trivial) hK hP hD hS hA 1 1 rfl rfl rfl [0] [1, 2] [0] [0, 1, 2] rfl rfl rfl rfl rfl (by decide) rfl rfl rfl hl.1 rfl (Nat.le_of_ble_eq_true rfl) d_C_less_85 ⟨Nat.zero_le _, Nat.zero_le _⟩ (st1 := []) rfl (fun H locs hP hD hS => ?_)
          refine lv_iinc (v := nI (i + 1)) (lv' := [(6, .int (nI (i + 1))), (7, .int (nI 1)), (0, .ref hc), (1, .int (nI to)), (2, .int (nI a)), (3, .int (nI b)), (4, .int (nI width)), (5, .int (bI sg))]) hx hb d_C_less_88 hl (k := 1) rfl (by rw [← nI_1]; rfl) (by decide) rfl (fun ls hl => ?_)
          refine lv_goto (tgt := 13) hx hb d_C_less_91 (by decide) ?_
          exact ih _ _ _ (by omega) ⟨by rw [show cLessN to a b width sg (i + 1) (oFill false to 1 w) = oChoose to 256 (a + i) to (oXor 256 (a + i) (b + i) 1 (cLessN to a b width sg i (oFill false to 1 w))) from congrArg (fun z => oChoose to 256 z to (oXor 256 (a + i) (b + i) 1 (cLessN to a b width sg i (oFill false to 1 w)))) (if_pos ⟨c_41, by omega⟩)]; exact hP, by rw [show cLessN to a b width sg (i + 1) (oFill false to 1 w) = oChoose to 256 (a + i) to (oXor 256 (a + i) (b + i) 1 (cLessN to a b width sg i (oFill false to 1 w))) from congrArg (fun z => oChoose to 256 z to (oXor 256 (a + i) (b + i) 1 (cLessN to a b width sg i (oFill false to 1 w)))) (if_pos ⟨c_41, by omega⟩)]; exact hD, hS, lv_sub hl [0, 2, 3, 4, 5, 6, 7] rfl⟩
set_option maxHeartbeats 4000000 in
set_option maxRecDepth 100000 in
theorem c_C_atMost (l : Launch) (D : va_G) (hc hs hw : Nat) (cL : ClassId) (w : Nat → Int64) (to a b width : Nat) (sg : Bool) (h1 : to + 1 ≤ 260) (h2 : a + width ≤ 260) (h3 : b + width ≤ 260) : Fn l y_C_atMost (wk y_C_atMost b_C_atMost 6 none) rm_C_atMost D cls [(cL, .long)] [.ref hc, .int (nI to), .int (nI a), .int (nI b), .int (nI width), .int (bI sg)] (circW hc hs hw cL w) XT none (circW hc hs hw cL (cAtMost to a b width sg w)) := by
  refine Fn.of (by decide) rfl (Nat.le_of_ble_eq_true rfl) ?_
  intro p e s m below meth c A ls hx hb hml hr hts0 hown hlocks hnm hP hK hD hS hA hAe hX hl
  have hts : ∀ w ∈ lw_ok, w.before _ s = true := fun w h => hts0 w (List.mem_cons_of_mem _ h)
  have hown : s.vm.findClass R_C = some m.cls := hown
  have hP : va_P D cls (circW hc hs hw cL w) s.heap := hP
  have hl : lv_has ls 6 [(0, .ref hc), (1, .int (nI to)), (2, .int (nI a)), (3, .int (nI b)), (4, .int (nI width)), (5, .int (bI sg))] := hl
  refine lv_aload_n hx hb d_C_atMost_0 rfl (lv_at hl 0 rfl) ?_
  refine lv_iload_n hx hb d_C_atMost_1 rfl (lv_at hl 1 rfl) ?_
  refine lv_iload_n hx hb d_C_atMost_2 rfl (lv_at hl 3 rfl) ?_
  refine lv_iload_n hx hb d_C_atMost_3 rfl (lv_at hl 2 rfl) ?_
  refine lv_iload hx hb d_C_atMost_4 (lv_at hl 4 rfl) ?_
  refine lv_iload hx hb d_C_atMost_6 (lv_at hl 5 rfl) ?_
  refine fn_V (ws' := (circW hc hs hw cL (cLess to b a width sg w))) (w1 := (circW hc hs hw cL (cLess to b a width sg w))) (wc := (circW hc hs hw cL w)) (wr := []) ⟨hx, hb, hml, hown, hts⟩ (c_C_less l D hc hs hw cL w to b a width sg (by omega) (by omega) (by omega)) ⟨callB_of 5 hts (gW wd_369) rfl rfl rfl (hts _ wd_2) (hts _ wd_374) hd_C_less ⟨Nat.le_of_ble_eq_true rfl, Nat.le_of_ble_eq_true rfl⟩, hts _ wd_367, hts _ wd_368⟩ XT_ok (fun _ _ _ => trivial) hK hP hD hS hA 0 2 rfl rfl rfl [0] [0, 1, 2] [] [0, 1, 2] rfl rfl rfl rfl rfl (by decide) rfl rfl rfl hl.1 rfl (Nat.le_of_ble_eq_true rfl) d_C_atMost_8 ⟨Nat.zero_le _, Nat.zero_le _⟩ (st1 := []) rfl (fun H locs hP hD hS => ?_)
  refine lv_aload_n hx hb d_C_atMost_11 rfl (lv_at hl 0 rfl) ?_
  refine va_get (D := D) (ci := 2) (v := .ref hs) (C := R_C) (T := F_C) (N := 1) hx hb hts in_C hown hK hP 0 rfl rfl 0 (by decide) (hts _ wd_37) (fun _ h9 => h9) rfl d_C_atMost_12 ?_
  refine lv_iload_n hx hb d_C_atMost_15 rfl (lv_at hl 1 rfl) ?_
  refine lv_iload_n hx hb d_C_atMost_16 rfl (lv_at hl 1 rfl) ?_
  refine lv_iconst (v := nI 1) hx hb d_C_atMost_17 (by decide) ?_
  refine fn_V (ws' := (circW hc hs hw cL (oTurn to to 1 (cLess to b a width sg w)))) (w1 := (setsW hs hw cL (oTurn to to 1 (cLess to b a width sg w)))) (wc := (setsW hs hw cL (cLess to b a width sg w))) (wr := [(hc, .inr (2, [.ref hs]))]) ⟨hx, hb, hml, hown, hts⟩ (c_S_turn l D hs hw cL (cLess to b a width sg w) to to 1 (by omega) (by omega) (by omega)) ⟨callB_of 3 hts (gW wd_310) rfl rfl rfl (hts _ wd_3) (hts _ wd_307) hd_S_turn ⟨Nat.le_of_ble_eq_true rfl, Nat.le_of_ble_eq_true rfl⟩, hts _ wd_308, hts _ wd_309⟩ XT_ok (fun _ _ _ => trivial) hK hP hD hS hA 1 1 rfl rfl rfl [0] [1, 2] [0] [0, 1, 2] rfl rfl rfl rfl rfl (by decide) rfl rfl rfl hl.1 rfl (Nat.le_of_ble_eq_true rfl) d_C_atMost_18 ⟨Nat.zero_le _, Nat.zero_le _⟩ (st1 := []) rfl (fun H locs hP hD hS => ?_)
  exact fn_vret hx hb hr hlocks hAe hK hP hD hS d_C_atMost_21
set_option maxHeartbeats 4000000 in
set_option maxRecDepth 100000 in
theorem c_C_product (l : Launch) (D : va_G) (hc hs hw : Nat) (cL : ClassId) (w : Nat → Int64) (to a b width : Nat) (h1 : to + width ≤ 260) (h2 : a + width ≤ 260) (h3 : b + width ≤ 260) : Fn l y_C_product (wk y_C_product b_C_product 7 none) rm_C_product D cls [(cL, .long)] [.ref hc, .int (nI to), .int (nI a), .int (nI b), .int (nI width)] (circW hc hs hw cL w) XT none (circW hc hs hw cL (cProd to a b width w)) := by
  refine Fn.of (by decide) rfl (Nat.le_of_ble_eq_true rfl) ?_
  intro p e s m below meth c A ls hx hb hml hr hts0 hown hlocks hnm hP hK hD hS hA hAe hX hl
  have hts : ∀ w ∈ lw_ok, w.before _ s = true := fun w h => hts0 w (List.mem_cons_of_mem _ h)
  have hown : s.vm.findClass R_C = some m.cls := hown
  have hP : va_P D cls (circW hc hs hw cL w) s.heap := hP
  have hl : lv_has ls 7 [(0, .ref hc), (1, .int (nI to)), (2, .int (nI a)), (3, .int (nI b)), (4, .int (nI width))] := hl
  refine lv_aload_n hx hb d_C_product_0 rfl (lv_at hl 0 rfl) ?_
  refine va_get (D := D) (ci := 2) (v := .ref hs) (C := R_C) (T := F_C) (N := 1) hx hb hts in_C hown hK hP 0 rfl rfl 0 (by decide) (hts _ wd_37) (fun _ h9 => h9) rfl d_C_product_1 ?_
  refine lv_iload_n hx hb d_C_product_4 rfl (lv_at hl 1 rfl) ?_
  refine lv_iload hx hb d_C_product_5 (lv_at hl 4 rfl) ?_
  refine lv_iconst (v := nI 0) hx hb d_C_product_7 (by decide) ?_
  refine fn_V (ws' := (circW hc hs hw cL (oFill false to width w))) (w1 := (setsW hs hw cL (oFill false to width w))) (wc := (setsW hs hw cL w)) (wr := [(hc, .inr (2, [.ref hs]))]) ⟨hx, hb, hml, hown, hts⟩ (c_S_fill l D hs hw cL w to width false (by omega)) ⟨callB_of 3 hts (gW wd_45) rfl rfl rfl (hts _ wd_3) (hts _ wd_289) hd_S_fill ⟨Nat.le_of_ble_eq_true rfl, Nat.le_of_ble_eq_true rfl⟩, hts _ wd_43, hts _ wd_44⟩ XT_ok (fun _ _ _ => trivial) hK hP hD hS hA 1 1 rfl rfl rfl [0] [1, 2] [0] [0, 1, 2] rfl rfl rfl rfl rfl (by decide) rfl rfl rfl hl.1 rfl (Nat.le_of_ble_eq_true rfl) d_C_product_8 ⟨Nat.zero_le _, Nat.zero_le _⟩ (st1 := []) rfl (fun H locs hP hD hS => ?_)
  refine lv_iconst (v := nI 0) hx hb d_C_product_11 (by decide) ?_
  refine lv_istore (lv' := [(5, .int (nI 0)), (0, .ref hc), (1, .int (nI to)), (2, .int (nI a)), (3, .int (nI b)), (4, .int (nI width))]) hx hb d_C_product_12 hl (by decide) rfl (fun ls hl => ?_)
  refine w_loop 14 [] (width) (fun i H locs ls => va_P D cls (circW hc hs hw cL (cProdO to a b width i (oFill false to width w))) H ∧ va_D A (circW hc hs hw cL (cProdO to a b width i (oFill false to width w))) ∧ va_S A s.heap H locs ∧ lv_has ls 7 [(5, .int (nI i)), (0, .ref hc), (1, .int (nI to)), (2, .int (nI a)), (3, .int (nI b)), (4, .int (nI width))]) ?_ 0 (Nat.zero_le _) _ _ ls ⟨hP, hD, hS, lv_sub hl [0, 1, 2, 3, 4, 5] rfl⟩
  intro i hi ih H locs ls ⟨hP, hD, hS, hl⟩
  refine lv_iload hx hb d_C_product_14 (lv_at hl 0 rfl) ?_
  refine lv_iload hx hb d_C_product_16 (lv_at hl 5 rfl) ?_
  refine z_icmp_ge (tgt := 93) hx hb (nI_toInt (by omega)) (nI_toInt (by omega)) d_C_product_18 (by decide) (fun c_18 => ?_) (fun c_18 => ?_)
  · obtain rfl : width = i := by omega
    exact fn_vret hx hb hr hlocks hAe hK hP hD hS d_C_product_93
  · refine lv_aload_n hx hb d_C_product_21 rfl (lv_at hl 1 rfl) ?_
    refine va_get (D := D) (ci := 2) (v := .ref hs) (C := R_C) (T := F_C) (N := 1) hx hb hts in_C hown hK hP 0 rfl rfl 0 (by decide) (hts _ wd_37) (fun _ h9 => h9) rfl d_C_product_22 ?_
    refine lv_sipush (v := nI 257) hx hb d_C_product_25 (by decide) ?_
    refine lv_iconst (v := nI 1) hx hb d_C_product_28 (by decide) ?_
    refine lv_iconst (v := nI 0) hx hb d_C_product_29 (by decide) ?_
    refine fn_V (ws' := (circW hc hs hw cL (oFill false 257 1 (cProdO to a b width i (oFill false to width w))))) (w1 := (setsW hs hw cL (oFill false 257 1 (cProdO to a b width i (oFill false to width w))))) (wc := (setsW hs hw cL (cProdO to a b width i (oFill false to width w)))) (wr := [(hc, .inr (2, [.ref hs]))]) ⟨hx, hb, hml, hown, hts⟩ (c_S_fill l D hs hw cL (cProdO to a b width i (oFill false to width w)) 257 1 false (by omega)) ⟨callB_of 3 hts (gW wd_45) rfl rfl rfl (hts _ wd_3) (hts _ wd_289) hd_S_fill ⟨Nat.le_of_ble_eq_true rfl, Nat.le_of_ble_eq_true rfl⟩, hts _ wd_43, hts _ wd_44⟩ XT_ok (fun _ _ _ => trivial) hK hP hD hS hA 1 1 rfl rfl rfl [0] [1, 2] [0] [0, 1, 2] rfl rfl rfl rfl rfl (by decide) rfl rfl rfl hl.1 rfl (Nat.le_of_ble_eq_true rfl) d_C_product_30 ⟨Nat.zero_le _, Nat.zero_le _⟩ (st1 := []) rfl (fun H locs hP hD hS => ?_)
    refine lv_iload hx hb d_C_product_33 (lv_at hl 0 rfl) ?_
    refine lv_istore (lv' := [(6, .int (nI i)), (5, .int (nI i)), (0, .ref hc), (1, .int (nI to)), (2, .int (nI a)), (3, .int (nI b)), (4, .int (nI width))]) hx hb d_C_product_35 hl (by decide) rfl (fun ls hl => ?_)
    refine w_loop 37 [] (width - i) (fun n H locs ls => va_P D cls (circW hc hs hw cL (cProdI to a b i n (oFill false 257 1 (cProdO to a b width i (oFill false to width w))))) H ∧ va_D A (circW hc hs hw cL (cProdI to a b i n (oFill false 257 1 (cProdO to a b width i (oFill false to width w))))) ∧ va_S A s.heap H locs ∧ lv_has ls 7 [(6, .int (nI (i + n))), (5, .int (nI i)), (0, .ref hc), (1, .int (nI to)), (2, .int (nI a)), (3, .int (nI b)), (4, .int (nI width))]) ?_ 0 (Nat.zero_le _) _ _ ls ⟨hP, hD, hS, lv_sub hl [0, 1, 2, 3, 4, 5, 6] rfl⟩
    intro n hin ihn H locs ls ⟨hP, hD, hS, hl⟩
    refine lv_iload hx hb d_C_product_37 (lv_at hl 0 rfl) ?_
    refine lv_iload hx hb d_C_product_39 (lv_at hl 6 rfl) ?_
    refine z_icmp_ge (tgt := 87) hx hb (nI_toInt (by omega)) (nI_toInt (by omega)) d_C_product_41 (by decide) (fun c_41 => ?_) (fun c_41 => ?_)
    · obtain rfl : width - i = n := by omega
      refine lv_iinc (v := nI (i + 1)) (lv' := [(5, .int (nI (i + 1))), (6, .int (nI (i + (width - i)))), (0, .ref hc), (1, .int (nI to)), (2, .int (nI a)), (3, .int (nI b)), (4, .int (nI width))]) hx hb d_C_product_87 hl (k := 1) rfl (by rw [← nI_1]; rfl) (by decide) rfl (fun ls hl => ?_)
      refine lv_goto (tgt := 14) hx hb d_C_product_90 (by decide) ?_
      exact ih _ _ _ (by omega) ⟨hP, hD, hS, lv_sub hl [0, 2, 3, 4, 5, 6] rfl⟩
    · refine lv_aload_n hx hb d_C_product_44 rfl (lv_at hl 2 rfl) ?_
      refine va_get (D := D) (ci := 2) (v := .ref hs) (C := R_C) (T := F_C) (N := 1) hx hb hts in_C hown hK hP 0 rfl rfl 0 (by decide) (hts _ wd_37) (fun _ h9 => h9) rfl d_C_product_45 ?_
      refine lv_sipush (v := nI 256) hx hb d_C_product_48 (by decide) ?_
      refine lv_iload_n hx hb d_C_product_51 rfl (lv_at hl 4 rfl) ?_
      refine lv_iload hx hb d_C_product_52 (lv_at hl 0 rfl) ?_
      refine n_add hx hb d_C_product_54 ?_
      refine lv_iload hx hb d_C_product_55 (lv_at hl 1 rfl) ?_
      refine n_sub hx hb (by omega) d_C_product_57 ?_
      refine lv_iload_n hx hb d_C_product_58 rfl (lv_at hl 5 rfl) ?_
      refine lv_iload hx hb d_C_product_59 (lv_at hl 1 rfl) ?_
      refine n_add hx hb d_C_product_61 ?_
      refine lv_iconst (v := nI 1) hx hb d_C_product_62 (by decide) ?_
      refine fn_V (ws' := (circW hc hs hw cL (oAnd 256 ((a + (i + n)) - i) (b + i) 1 (cProdI to a b i n (oFill false 257 1 (cProdO to a b width i (oFill false to width w))))))) (w1 := (setsW hs hw cL (oAnd 256 ((a + (i + n)) - i) (b + i) 1 (cProdI to a b i n (oFill false 257 1 (cProdO to a b width i (oFill false to width w))))))) (wc := (setsW hs hw cL (cProdI to a b i n (oFill false 257 1 (cProdO to a b width i (oFill false to width w)))))) (wr := [(hc, .inr (2, [.ref hs]))]) ⟨hx, hb, hml, hown, hts⟩ (c_S_and l D hs hw cL (cProdI to a b i n (oFill false 257 1 (cProdO to a b width i (oFill false to width w)))) 256 ((a + (i + n)) - i) (b + i) 1 (by omega) (by omega) (by omega) (by omega) (by omega)) ⟨callB_of 4 hts (gW wd_134) rfl rfl rfl (hts _ wd_3) (hts _ wd_298) hd_S_and ⟨Nat.le_of_ble_eq_true rfl, Nat.le_of_ble_eq_true rfl⟩, hts _ wd_132, hts _ wd_133⟩ XT_ok (fun _ _ _ => trivial) hK hP hD hS hA 1 1 rfl rfl rfl [0] [1, 2] [0] [0, 1, 2] rfl rfl rfl rfl rfl (by decide) rfl rfl rfl hl.1 rfl (Nat.le_of_ble_eq_true rfl) d_C_product_63 ⟨Nat.zero_le _, Nat.zero_le _⟩ (st1 := []) rfl (fun H locs hP hD hS => ?_)
      refine lv_aload_n hx hb d_C_product_66 rfl (lv_at hl 2 rfl) ?_
      refine lv_iload_n hx hb d_C_product_67 rfl (lv_at hl 3 rfl) ?_
      refine lv_iload hx hb d_C_product_68 (lv_at hl 0 rfl) ?_
      refine n_add hx hb d_C_product_70 ?_
      refine lv_iload_n hx hb d_C_product_71 rfl (lv_at hl 3 rfl) ?_
      refine lv_iload hx hb d_C_product_72 (lv_at hl 0 rfl) ?_
      refine n_add hx hb d_C_product_74 ?_
      refine lv_sipush (v := nI 256) hx hb d_C_product_75 (by decide) ?_
      refine fn_V (ws' := (circW hc hs hw cL (cAdd (to + (i + n)) (to + (i + n)) 256 (oAnd 256 ((a + (i + n)) - i) (b + i) 1 (cProdI to a b i n (oFill false 257 1 (cProdO to a b width i (oFill false to width w)))))))) (w1 := (circW hc hs hw cL (cAdd (to + (i + n)) (to + (i + n)) 256 (oAnd 256 ((a + (i + n)) - i) (b + i) 1 (cProdI to a b i n (oFill false 257 1 (cProdO to a b width i (oFill false to width w)))))))) (wc := (circW hc hs hw cL (oAnd 256 ((a + (i + n)) - i) (b + i) 1 (cProdI to a b i n (oFill false 257 1 (cProdO to a b width i (oFill false to width w))))))) (wr := []) ⟨hx, hb, hml, hown, hts⟩ (c_C_addBit l D hc hs hw cL (oAnd 256 ((a + (i + n)) - i) (b + i) 1 (cProdI to a b i n (oFill false 257 1 (cProdO to a b width i (oFill false to width w))))) (to + (i + n)) (to + (i + n)) 256 (by omega) (by omega) (by omega)) ⟨callB_of 3 hts (gW wd_293) rfl rfl rfl (hts _ wd_2) (hts _ wd_290) hd_C_addBit ⟨Nat.le_of_ble_eq_true rfl, Nat.le_of_ble_eq_true rfl⟩, hts _ wd_292, hts _ wd_p16⟩ XT_ok (fun _ _ _ => trivial) hK hP hD hS hA 0 2 rfl rfl rfl [0] [0, 1, 2] [] [0, 1, 2] rfl rfl rfl rfl rfl (by decide) rfl rfl rfl hl.1 rfl (Nat.le_of_ble_eq_true rfl) d_C_product_78 ⟨Nat.zero_le _, Nat.zero_le _⟩ (st1 := []) rfl (fun H locs hP hD hS => ?_)
      refine lv_iinc (v := nI ((i + n) + 1)) (lv' := [(6, .int (nI ((i + n) + 1))), (5, .int (nI i)), (0, .ref hc), (1, .int (nI to)), (2, .int (nI a)), (3, .int (nI b)), (4, .int (nI width))]) hx hb d_C_product_81 hl (k := 0) rfl (by rw [← nI_1]; rfl) (by decide) rfl (fun ls hl => ?_)
      refine lv_goto (tgt := 37) hx hb d_C_product_84 (by decide) ?_
      exact ihn _ _ _ (by omega) ⟨hP, hD, hS, lv_sub hl [0, 1, 2, 3, 4, 5, 6] rfl⟩
