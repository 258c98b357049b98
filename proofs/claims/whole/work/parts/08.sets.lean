set_option maxHeartbeats 4000000 in
set_option maxRecDepth 100000 in
theorem c_S_and (l : Launch) (D : va_G) (hs hw : Nat) (cL : ClassId) (w : Nat → Int64) (to a b rows : Nat) (h1 : to + rows ≤ 260) (h2 : a + rows ≤ 260) (h3 : b + rows ≤ 260) (k2 : to ≤ a ∨ a + rows ≤ to) (k3 : to ≤ b ∨ b + rows ≤ to) : Fn l y_S_and (wk y_S_and b_S_and 6 none) rm_S_and D cls [(cL, .long)] [.ref hs, .int (nI to), .int (nI a), .int (nI b), .int (nI rows)] (setsW hs hw cL w) XT none (setsW hs hw cL (oAnd to a b rows w)) := by
  refine Fn.of (by decide) rfl (Nat.le_of_ble_eq_true rfl) ?_
  intro p e s m below meth c A ls hx hb hml hr hts0 hown hlocks hnm hP hK hD hS hA hAe hX hl
  have hts : ∀ w ∈ lw_ok, w.before _ s = true := fun w h => hts0 w (List.mem_cons_of_mem _ h)
  have hown : s.vm.findClass R_S = some m.cls := hown
  have hP : va_P D cls (setsW hs hw cL w) s.heap := hP
  have hl : lv_has ls 6 [(0, .ref hs), (1, .int (nI to)), (2, .int (nI a)), (3, .int (nI b)), (4, .int (nI rows))] := hl
  refine lv_iconst (v := nI 0) hx hb d_S_and_0 (by decide) ?_
  refine lv_istore (lv' := [(5, .int (nI 0)), (0, .ref hs), (1, .int (nI to)), (2, .int (nI a)), (3, .int (nI b)), (4, .int (nI rows))]) hx hb d_S_and_1 hl (by decide) rfl (fun ls hl => ?_)
  refine w_loop 3 [] (rows * 16) (fun i H locs ls => va_P D cls (setsW hs hw cL (rset (fun i => w (a * 16 + i) &&& w (b * 16 + i)) to i w)) H ∧ va_D A (setsW hs hw cL (rset (fun i => w (a * 16 + i) &&& w (b * 16 + i)) to i w)) ∧ va_S A s.heap H locs ∧ lv_has ls 6 [(5, .int (nI i)), (0, .ref hs), (1, .int (nI to)), (2, .int (nI a)), (3, .int (nI b)), (4, .int (nI rows))]) ?_ 0 (Nat.zero_le _) _ _ ls ⟨by rw [rset_0]; exact hP, by rw [rset_0]; exact hD, hS, lv_sub hl [0, 1, 2, 3, 4, 5] rfl⟩
  intro i hi ih H locs ls ⟨hP, hD, hS, hl⟩
  refine lv_iload hx hb d_S_and_3 (lv_at hl 0 rfl) ?_
  refine lv_iload hx hb d_S_and_5 (lv_at hl 5 rfl) ?_
  refine lv_bipush (v := nI 16) hx hb d_S_and_7 (by decide) ?_
  refine n_mul hx hb d_S_and_9 ?_
  refine z_icmp_ge (tgt := 56) hx hb (nI_toInt (by omega)) (nI_toInt (by omega)) d_S_and_10 (by decide) (fun c_10 => ?_) (fun c_10 => ?_)
  · obtain rfl : rows * 16 = i := by omega
    exact fn_vret hx hb hr hlocks hAe hK hP hD hS d_S_and_56
  · refine lv_aload_n hx hb d_S_and_13 rfl (lv_at hl 1 rfl) ?_
    refine va_get (D := D) (ci := 1) (v := .ref hw) (C := R_S) (T := F_S) (N := 1) hx hb hts in_S hown hK hP 0 rfl rfl 0 (by decide) (hts _ wd_32) (fun _ h9 => h9) rfl d_S_and_14 ?_
    refine lv_iload_n hx hb d_S_and_17 rfl (lv_at hl 2 rfl) ?_
    refine lv_bipush (v := nI 16) hx hb d_S_and_18 (by decide) ?_
    refine n_mul hx hb d_S_and_20 ?_
    refine lv_iload hx hb d_S_and_21 (lv_at hl 0 rfl) ?_
    refine n_add hx hb d_S_and_23 ?_
    refine lv_aload_n hx hb d_S_and_24 rfl (lv_at hl 1 rfl) ?_
    refine va_get (D := D) (ci := 1) (v := .ref hw) (C := R_S) (T := F_S) (N := 1) hx hb hts in_S hown hK hP 0 rfl rfl 0 (by decide) (hts _ wd_32) (fun _ h9 => h9) rfl d_S_and_25 ?_
    refine lv_iload_n hx hb d_S_and_28 rfl (lv_at hl 3 rfl) ?_
    refine lv_bipush (v := nI 16) hx hb d_S_and_29 (by decide) ?_
    refine n_mul hx hb d_S_and_31 ?_
    refine lv_iload hx hb d_S_and_32 (lv_at hl 0 rfl) ?_
    refine n_add hx hb d_S_and_34 ?_
    refine n_lald hx hb hK hP 1 0 rfl rfl (i := (a * 16) + i) (by omega) (by omega) d_S_and_35 ?_
    refine lv_aload_n hx hb d_S_and_36 rfl (lv_at hl 1 rfl) ?_
    refine va_get (D := D) (ci := 1) (v := .ref hw) (C := R_S) (T := F_S) (N := 1) hx hb hts in_S hown hK hP 0 rfl rfl 0 (by decide) (hts _ wd_32) (fun _ h9 => h9) rfl d_S_and_37 ?_
    refine lv_iload_n hx hb d_S_and_40 rfl (lv_at hl 4 rfl) ?_
    refine lv_bipush (v := nI 16) hx hb d_S_and_41 (by decide) ?_
    refine n_mul hx hb d_S_and_43 ?_
    refine lv_iload hx hb d_S_and_44 (lv_at hl 0 rfl) ?_
    refine n_add hx hb d_S_and_46 ?_
    refine n_lald hx hb hK hP 1 0 rfl rfl (i := (b * 16) + i) (by omega) (by omega) d_S_and_47 ?_
    refine lv_land hx hb d_S_and_48 ?_
    refine n_last hx hb hK hP hD hS 1 0 rfl rfl (i := (to * 16) + i) (by omega) (by omega) (by rw [rset_rd _ w (to := to) (a := a) (i := i) (N := rows * 16) (by omega) (by omega), rset_rd _ w (to := to) (a := b) (i := i) (N := rows * 16) (by omega) (by omega)]; exact rset_st _ _ _ _) d_S_and_49 (ws' := (setsW hs hw cL (rset (fun i => w (a * 16 + i) &&& w (b * 16 + i)) to (i + 1) w))) rfl (fun H locs hP hD hS => ?_)
    refine lv_iinc (v := nI (i + 1)) (lv' := [(5, .int (nI (i + 1))), (0, .ref hs), (1, .int (nI to)), (2, .int (nI a)), (3, .int (nI b)), (4, .int (nI rows))]) hx hb d_S_and_50 hl (k := 0) rfl (by rw [← nI_1]; rfl) (by decide) rfl (fun ls hl => ?_)
    refine lv_goto (tgt := 3) hx hb d_S_and_53 (by decide) ?_
    exact ih _ _ _ (by omega) ⟨hP, hD, hS, lv_sub hl [0, 1, 2, 3, 4, 5] rfl⟩
set_option maxHeartbeats 4000000 in
set_option maxRecDepth 100000 in
theorem c_S_or (l : Launch) (D : va_G) (hs hw : Nat) (cL : ClassId) (w : Nat → Int64) (to a b rows : Nat) (h1 : to + rows ≤ 260) (h2 : a + rows ≤ 260) (h3 : b + rows ≤ 260) (k2 : to ≤ a ∨ a + rows ≤ to) (k3 : to ≤ b ∨ b + rows ≤ to) : Fn l y_S_or (wk y_S_or b_S_or 6 none) rm_S_or D cls [(cL, .long)] [.ref hs, .int (nI to), .int (nI a), .int (nI b), .int (nI rows)] (setsW hs hw cL w) XT none (setsW hs hw cL (oOr to a b rows w)) := by
  refine Fn.of (by decide) rfl (Nat.le_of_ble_eq_true rfl) ?_
  intro p e s m below meth c A ls hx hb hml hr hts0 hown hlocks hnm hP hK hD hS hA hAe hX hl
  have hts : ∀ w ∈ lw_ok, w.before _ s = true := fun w h => hts0 w (List.mem_cons_of_mem _ h)
  have hown : s.vm.findClass R_S = some m.cls := hown
  have hP : va_P D cls (setsW hs hw cL w) s.heap := hP
  have hl : lv_has ls 6 [(0, .ref hs), (1, .int (nI to)), (2, .int (nI a)), (3, .int (nI b)), (4, .int (nI rows))] := hl
  refine lv_iconst (v := nI 0) hx hb d_S_or_0 (by decide) ?_
  refine lv_istore (lv' := [(5, .int (nI 0)), (0, .ref hs), (1, .int (nI to)), (2, .int (nI a)), (3, .int (nI b)), (4, .int (nI rows))]) hx hb d_S_or_1 hl (by decide) rfl (fun ls hl => ?_)
  refine w_loop 3 [] (rows * 16) (fun i H locs ls => va_P D cls (setsW hs hw cL (rset (fun i => w (a * 16 + i) ||| w (b * 16 + i)) to i w)) H ∧ va_D A (setsW hs hw cL (rset (fun i => w (a * 16 + i) ||| w (b * 16 + i)) to i w)) ∧ va_S A s.heap H locs ∧ lv_has ls 6 [(5, .int (nI i)), (0, .ref hs), (1, .int (nI to)), (2, .int (nI a)), (3, .int (nI b)), (4, .int (nI rows))]) ?_ 0 (Nat.zero_le _) _ _ ls ⟨by rw [rset_0]; exact hP, by rw [rset_0]; exact hD, hS, lv_sub hl [0, 1, 2, 3, 4, 5] rfl⟩
  intro i hi ih H locs ls ⟨hP, hD, hS, hl⟩
  refine lv_iload hx hb d_S_or_3 (lv_at hl 0 rfl) ?_
  refine lv_iload hx hb d_S_or_5 (lv_at hl 5 rfl) ?_
  refine lv_bipush (v := nI 16) hx hb d_S_or_7 (by decide) ?_
  refine n_mul hx hb d_S_or_9 ?_
  refine z_icmp_ge (tgt := 56) hx hb (nI_toInt (by omega)) (nI_toInt (by omega)) d_S_or_10 (by decide) (fun c_10 => ?_) (fun c_10 => ?_)
  · obtain rfl : rows * 16 = i := by omega
    exact fn_vret hx hb hr hlocks hAe hK hP hD hS d_S_or_56
  · refine lv_aload_n hx hb d_S_or_13 rfl (lv_at hl 1 rfl) ?_
    refine va_get (D := D) (ci := 1) (v := .ref hw) (C := R_S) (T := F_S) (N := 1) hx hb hts in_S hown hK hP 0 rfl rfl 0 (by decide) (hts _ wd_32) (fun _ h9 => h9) rfl d_S_or_14 ?_
    refine lv_iload_n hx hb d_S_or_17 rfl (lv_at hl 2 rfl) ?_
    refine lv_bipush (v := nI 16) hx hb d_S_or_18 (by decide) ?_
    refine n_mul hx hb d_S_or_20 ?_
    refine lv_iload hx hb d_S_or_21 (lv_at hl 0 rfl) ?_
    refine n_add hx hb d_S_or_23 ?_
    refine lv_aload_n hx hb d_S_or_24 rfl (lv_at hl 1 rfl) ?_
    refine va_get (D := D) (ci := 1) (v := .ref hw) (C := R_S) (T := F_S) (N := 1) hx hb hts in_S hown hK hP 0 rfl rfl 0 (by decide) (hts _ wd_32) (fun _ h9 => h9) rfl d_S_or_25 ?_
    refine lv_iload_n hx hb d_S_or_28 rfl (lv_at hl 3 rfl) ?_
    refine lv_bipush (v := nI 16) hx hb d_S_or_29 (by decide) ?_
    refine n_mul hx hb d_S_or_31 ?_
    refine lv_iload hx hb d_S_or_32 (lv_at hl 0 rfl) ?_
    refine n_add hx hb d_S_or_34 ?_
    refine n_lald hx hb hK hP 1 0 rfl rfl (i := (a * 16) + i) (by omega) (by omega) d_S_or_35 ?_
    refine lv_aload_n hx hb d_S_or_36 rfl (lv_at hl 1 rfl) ?_
    refine va_get (D := D) (ci := 1) (v := .ref hw) (C := R_S) (T := F_S) (N := 1) hx hb hts in_S hown hK hP 0 rfl rfl 0 (by decide) (hts _ wd_32) (fun _ h9 => h9) rfl d_S_or_37 ?_
    refine lv_iload_n hx hb d_S_or_40 rfl (lv_at hl 4 rfl) ?_
    refine lv_bipush (v := nI 16) hx hb d_S_or_41 (by decide) ?_
    refine n_mul hx hb d_S_or_43 ?_
    refine lv_iload hx hb d_S_or_44 (lv_at hl 0 rfl) ?_
    refine n_add hx hb d_S_or_46 ?_
    refine n_lald hx hb hK hP 1 0 rfl rfl (i := (b * 16) + i) (by omega) (by omega) d_S_or_47 ?_
    refine lv_lor hx hb d_S_or_48 ?_
    refine n_last hx hb hK hP hD hS 1 0 rfl rfl (i := (to * 16) + i) (by omega) (by omega) (by rw [rset_rd _ w (to := to) (a := a) (i := i) (N := rows * 16) (by omega) (by omega), rset_rd _ w (to := to) (a := b) (i := i) (N := rows * 16) (by omega) (by omega)]; exact rset_st _ _ _ _) d_S_or_49 (ws' := (setsW hs hw cL (rset (fun i => w (a * 16 + i) ||| w (b * 16 + i)) to (i + 1) w))) rfl (fun H locs hP hD hS => ?_)
    refine lv_iinc (v := nI (i + 1)) (lv' := [(5, .int (nI (i + 1))), (0, .ref hs), (1, .int (nI to)), (2, .int (nI a)), (3, .int (nI b)), (4, .int (nI rows))]) hx hb d_S_or_50 hl (k := 0) rfl (by rw [← nI_1]; rfl) (by decide) rfl (fun ls hl => ?_)
    refine lv_goto (tgt := 3) hx hb d_S_or_53 (by decide) ?_
    exact ih _ _ _ (by omega) ⟨hP, hD, hS, lv_sub hl [0, 1, 2, 3, 4, 5] rfl⟩
set_option maxHeartbeats 4000000 in
set_option maxRecDepth 100000 in
theorem c_S_exclusive (l : Launch) (D : va_G) (hs hw : Nat) (cL : ClassId) (w : Nat → Int64) (to a b rows : Nat) (h1 : to + rows ≤ 260) (h2 : a + rows ≤ 260) (h3 : b + rows ≤ 260) (k2 : to ≤ a ∨ a + rows ≤ to) (k3 : to ≤ b ∨ b + rows ≤ to) : Fn l y_S_exclusive (wk y_S_exclusive b_S_exclusive 6 none) rm_S_exclusive D cls [(cL, .long)] [.ref hs, .int (nI to), .int (nI a), .int (nI b), .int (nI rows)] (setsW hs hw cL w) XT none (setsW hs hw cL (oXor to a b rows w)) := by
  refine Fn.of (by decide) rfl (Nat.le_of_ble_eq_true rfl) ?_
  intro p e s m below meth c A ls hx hb hml hr hts0 hown hlocks hnm hP hK hD hS hA hAe hX hl
  have hts : ∀ w ∈ lw_ok, w.before _ s = true := fun w h => hts0 w (List.mem_cons_of_mem _ h)
  have hown : s.vm.findClass R_S = some m.cls := hown
  have hP : va_P D cls (setsW hs hw cL w) s.heap := hP
  have hl : lv_has ls 6 [(0, .ref hs), (1, .int (nI to)), (2, .int (nI a)), (3, .int (nI b)), (4, .int (nI rows))] := hl
  refine lv_iconst (v := nI 0) hx hb d_S_exclusive_0 (by decide) ?_
  refine lv_istore (lv' := [(5, .int (nI 0)), (0, .ref hs), (1, .int (nI to)), (2, .int (nI a)), (3, .int (nI b)), (4, .int (nI rows))]) hx hb d_S_exclusive_1 hl (by decide) rfl (fun ls hl => ?_)
  refine w_loop 3 [] (rows * 16) (fun i H locs ls => va_P D cls (setsW hs hw cL (rset (fun i => w (a * 16 + i) ^^^ w (b * 16 + i)) to i w)) H ∧ va_D A (setsW hs hw cL (rset (fun i => w (a * 16 + i) ^^^ w (b * 16 + i)) to i w)) ∧ va_S A s.heap H locs ∧ lv_has ls 6 [(5, .int (nI i)), (0, .ref hs), (1, .int (nI to)), (2, .int (nI a)), (3, .int (nI b)), (4, .int (nI rows))]) ?_ 0 (Nat.zero_le _) _ _ ls ⟨by rw [rset_0]; exact hP, by rw [rset_0]; exact hD, hS, lv_sub hl [0, 1, 2, 3, 4, 5] rfl⟩
  intro i hi ih H locs ls ⟨hP, hD, hS, hl⟩
  refine lv_iload hx hb d_S_exclusive_3 (lv_at hl 0 rfl) ?_
  refine lv_iload hx hb d_S_exclusive_5 (lv_at hl 5 rfl) ?_
  refine lv_bipush (v := nI 16) hx hb d_S_exclusive_7 (by decide) ?_
  refine n_mul hx hb d_S_exclusive_9 ?_
  refine z_icmp_ge (tgt := 56) hx hb (nI_toInt (by omega)) (nI_toInt (by omega)) d_S_exclusive_10 (by decide) (fun c_10 => ?_) (fun c_10 => ?_)
  · obtain rfl : rows * 16 = i := by omega
    exact fn_vret hx hb hr hlocks hAe hK hP hD hS d_S_exclusive_56
  · refine lv_aload_n hx hb d_S_exclusive_13 rfl (lv_at hl 1 rfl) ?_
    refine va_get (D := D) (ci := 1) (v := .ref hw) (C := R_S) (T := F_S) (N := 1) hx hb hts in_S hown hK hP 0 rfl rfl 0 (by decide) (hts _ wd_32) (fun _ h9 => h9) rfl d_S_exclusive_14 ?_
    refine lv_iload_n hx hb d_S_exclusive_17 rfl (lv_at hl 2 rfl) ?_
    refine lv_bipush (v := nI 16) hx hb d_S_exclusive_18 (by decide) ?_
    refine n_mul hx hb d_S_exclusive_20 ?_
    refine lv_iload hx hb d_S_exclusive_21 (lv_at hl 0 rfl) ?_
    refine n_add hx hb d_S_exclusive_23 ?_
    refine lv_aload_n hx hb d_S_exclusive_24 rfl (lv_at hl 1 rfl) ?_
    refine va_get (D := D) (ci := 1) (v := .ref hw) (C := R_S) (T := F_S) (N := 1) hx hb hts in_S hown hK hP 0 rfl rfl 0 (by decide) (hts _ wd_32) (fun _ h9 => h9) rfl d_S_exclusive_25 ?_
    refine lv_iload_n hx hb d_S_exclusive_28 rfl (lv_at hl 3 rfl) ?_
    refine lv_bipush (v := nI 16) hx hb d_S_exclusive_29 (by decide) ?_
    refine n_mul hx hb d_S_exclusive_31 ?_
    refine lv_iload hx hb d_S_exclusive_32 (lv_at hl 0 rfl) ?_
    refine n_add hx hb d_S_exclusive_34 ?_
    refine n_lald hx hb hK hP 1 0 rfl rfl (i := (a * 16) + i) (by omega) (by omega) d_S_exclusive_35 ?_
    refine lv_aload_n hx hb d_S_exclusive_36 rfl (lv_at hl 1 rfl) ?_
    refine va_get (D := D) (ci := 1) (v := .ref hw) (C := R_S) (T := F_S) (N := 1) hx hb hts in_S hown hK hP 0 rfl rfl 0 (by decide) (hts _ wd_32) (fun _ h9 => h9) rfl d_S_exclusive_37 ?_
    refine lv_iload_n hx hb d_S_exclusive_40 rfl (lv_at hl 4 rfl) ?_
    refine lv_bipush (v := nI 16) hx hb d_S_exclusive_41 (by decide) ?_
    refine n_mul hx hb d_S_exclusive_43 ?_
    refine lv_iload hx hb d_S_exclusive_44 (lv_at hl 0 rfl) ?_
    refine n_add hx hb d_S_exclusive_46 ?_
    refine n_lald hx hb hK hP 1 0 rfl rfl (i := (b * 16) + i) (by omega) (by omega) d_S_exclusive_47 ?_
    refine lv_lxor hx hb d_S_exclusive_48 ?_
    refine n_last hx hb hK hP hD hS 1 0 rfl rfl (i := (to * 16) + i) (by omega) (by omega) (by rw [rset_rd _ w (to := to) (a := a) (i := i) (N := rows * 16) (by omega) (by omega), rset_rd _ w (to := to) (a := b) (i := i) (N := rows * 16) (by omega) (by omega)]; exact rset_st _ _ _ _) d_S_exclusive_49 (ws' := (setsW hs hw cL (rset (fun i => w (a * 16 + i) ^^^ w (b * 16 + i)) to (i + 1) w))) rfl (fun H locs hP hD hS => ?_)
    refine lv_iinc (v := nI (i + 1)) (lv' := [(5, .int (nI (i + 1))), (0, .ref hs), (1, .int (nI to)), (2, .int (nI a)), (3, .int (nI b)), (4, .int (nI rows))]) hx hb d_S_exclusive_50 hl (k := 0) rfl (by rw [← nI_1]; rfl) (by decide) rfl (fun ls hl => ?_)
    refine lv_goto (tgt := 3) hx hb d_S_exclusive_53 (by decide) ?_
    exact ih _ _ _ (by omega) ⟨hP, hD, hS, lv_sub hl [0, 1, 2, 3, 4, 5] rfl⟩
set_option maxHeartbeats 4000000 in
set_option maxRecDepth 100000 in
theorem c_S_copy (l : Launch) (D : va_G) (hs hw : Nat) (cL : ClassId) (w : Nat → Int64) (to a rows : Nat) (h1 : to + rows ≤ 260) (h2 : a + rows ≤ 260) (k2 : to ≤ a ∨ a + rows ≤ to) : Fn l y_S_copy (wk y_S_copy b_S_copy 5 none) rm_S_copy D cls [(cL, .long)] [.ref hs, .int (nI to), .int (nI a), .int (nI rows)] (setsW hs hw cL w) XT none (setsW hs hw cL (oCopy to a rows w)) := by
  refine Fn.of (by decide) rfl (Nat.le_of_ble_eq_true rfl) ?_
  intro p e s m below meth c A ls hx hb hml hr hts0 hown hlocks hnm hP hK hD hS hA hAe hX hl
  have hts : ∀ w ∈ lw_ok, w.before _ s = true := fun w h => hts0 w (List.mem_cons_of_mem _ h)
  have hown : s.vm.findClass R_S = some m.cls := hown
  have hP : va_P D cls (setsW hs hw cL w) s.heap := hP
  have hl : lv_has ls 5 [(0, .ref hs), (1, .int (nI to)), (2, .int (nI a)), (3, .int (nI rows))] := hl
  refine lv_iconst (v := nI 0) hx hb d_S_copy_0 (by decide) ?_
  refine lv_istore (lv' := [(4, .int (nI 0)), (0, .ref hs), (1, .int (nI to)), (2, .int (nI a)), (3, .int (nI rows))]) hx hb d_S_copy_1 hl (by decide) rfl (fun ls hl => ?_)
  refine w_loop 3 [] (rows * 16) (fun i H locs ls => va_P D cls (setsW hs hw cL (rset (fun i => w (a * 16 + i)) to i w)) H ∧ va_D A (setsW hs hw cL (rset (fun i => w (a * 16 + i)) to i w)) ∧ va_S A s.heap H locs ∧ lv_has ls 5 [(4, .int (nI i)), (0, .ref hs), (1, .int (nI to)), (2, .int (nI a)), (3, .int (nI rows))]) ?_ 0 (Nat.zero_le _) _ _ ls ⟨by rw [rset_0]; exact hP, by rw [rset_0]; exact hD, hS, lv_sub hl [0, 1, 2, 3, 4] rfl⟩
  intro i hi ih H locs ls ⟨hP, hD, hS, hl⟩
  refine lv_iload hx hb d_S_copy_3 (lv_at hl 0 rfl) ?_
  refine lv_iload_n hx hb d_S_copy_5 rfl (lv_at hl 4 rfl) ?_
  refine lv_bipush (v := nI 16) hx hb d_S_copy_6 (by decide) ?_
  refine n_mul hx hb d_S_copy_8 ?_
  refine z_icmp_ge (tgt := 42) hx hb (nI_toInt (by omega)) (nI_toInt (by omega)) d_S_copy_9 (by decide) (fun c_9 => ?_) (fun c_9 => ?_)
  · obtain rfl : rows * 16 = i := by omega
    exact fn_vret hx hb hr hlocks hAe hK hP hD hS d_S_copy_42
  · refine lv_aload_n hx hb d_S_copy_12 rfl (lv_at hl 1 rfl) ?_
    refine va_get (D := D) (ci := 1) (v := .ref hw) (C := R_S) (T := F_S) (N := 1) hx hb hts in_S hown hK hP 0 rfl rfl 0 (by decide) (hts _ wd_32) (fun _ h9 => h9) rfl d_S_copy_13 ?_
    refine lv_iload_n hx hb d_S_copy_16 rfl (lv_at hl 2 rfl) ?_
    refine lv_bipush (v := nI 16) hx hb d_S_copy_17 (by decide) ?_
    refine n_mul hx hb d_S_copy_19 ?_
    refine lv_iload hx hb d_S_copy_20 (lv_at hl 0 rfl) ?_
    refine n_add hx hb d_S_copy_22 ?_
    refine lv_aload_n hx hb d_S_copy_23 rfl (lv_at hl 1 rfl) ?_
    refine va_get (D := D) (ci := 1) (v := .ref hw) (C := R_S) (T := F_S) (N := 1) hx hb hts in_S hown hK hP 0 rfl rfl 0 (by decide) (hts _ wd_32) (fun _ h9 => h9) rfl d_S_copy_24 ?_
    refine lv_iload_n hx hb d_S_copy_27 rfl (lv_at hl 3 rfl) ?_
    refine lv_bipush (v := nI 16) hx hb d_S_copy_28 (by decide) ?_
    refine n_mul hx hb d_S_copy_30 ?_
    refine lv_iload hx hb d_S_copy_31 (lv_at hl 0 rfl) ?_
    refine n_add hx hb d_S_copy_33 ?_
    refine n_lald hx hb hK hP 1 0 rfl rfl (i := (a * 16) + i) (by omega) (by omega) d_S_copy_34 ?_
    refine n_last hx hb hK hP hD hS 1 0 rfl rfl (i := (to * 16) + i) (by omega) (by omega) (by rw [rset_rd _ w (to := to) (a := a) (i := i) (N := rows * 16) (by omega) (by omega)]; exact rset_st _ _ _ _) d_S_copy_35 (ws' := (setsW hs hw cL (rset (fun i => w (a * 16 + i)) to (i + 1) w))) rfl (fun H locs hP hD hS => ?_)
    refine lv_iinc (v := nI (i + 1)) (lv' := [(4, .int (nI (i + 1))), (0, .ref hs), (1, .int (nI to)), (2, .int (nI a)), (3, .int (nI rows))]) hx hb d_S_copy_36 hl (k := 0) rfl (by rw [← nI_1]; rfl) (by decide) rfl (fun ls hl => ?_)
    refine lv_goto (tgt := 3) hx hb d_S_copy_39 (by decide) ?_
    exact ih _ _ _ (by omega) ⟨hP, hD, hS, lv_sub hl [0, 1, 2, 3, 4] rfl⟩
set_option maxHeartbeats 4000000 in
set_option maxRecDepth 100000 in
theorem c_S_turn (l : Launch) (D : va_G) (hs hw : Nat) (cL : ClassId) (w : Nat → Int64) (to a rows : Nat) (h1 : to + rows ≤ 260) (h2 : a + rows ≤ 260) (k2 : to ≤ a ∨ a + rows ≤ to) : Fn l y_S_turn (wk y_S_turn b_S_turn 5 none) rm_S_turn D cls [(cL, .long)] [.ref hs, .int (nI to), .int (nI a), .int (nI rows)] (setsW hs hw cL w) XT none (setsW hs hw cL (oTurn to a rows w)) := by
  refine Fn.of (by decide) rfl (Nat.le_of_ble_eq_true rfl) ?_
  intro p e s m below meth c A ls hx hb hml hr hts0 hown hlocks hnm hP hK hD hS hA hAe hX hl
  have hts : ∀ w ∈ lw_ok, w.before _ s = true := fun w h => hts0 w (List.mem_cons_of_mem _ h)
  have hown : s.vm.findClass R_S = some m.cls := hown
  have hP : va_P D cls (setsW hs hw cL w) s.heap := hP
  have hl : lv_has ls 5 [(0, .ref hs), (1, .int (nI to)), (2, .int (nI a)), (3, .int (nI rows))] := hl
  refine lv_iconst (v := nI 0) hx hb d_S_turn_0 (by decide) ?_
  refine lv_istore (lv' := [(4, .int (nI 0)), (0, .ref hs), (1, .int (nI to)), (2, .int (nI a)), (3, .int (nI rows))]) hx hb d_S_turn_1 hl (by decide) rfl (fun ls hl => ?_)
  refine w_loop 3 [] (rows * 16) (fun i H locs ls => va_P D cls (setsW hs hw cL (rset (fun i => w (a * 16 + i) ^^^ (-1)) to i w)) H ∧ va_D A (setsW hs hw cL (rset (fun i => w (a * 16 + i) ^^^ (-1)) to i w)) ∧ va_S A s.heap H locs ∧ lv_has ls 5 [(4, .int (nI i)), (0, .ref hs), (1, .int (nI to)), (2, .int (nI a)), (3, .int (nI rows))]) ?_ 0 (Nat.zero_le _) _ _ ls ⟨by rw [rset_0]; exact hP, by rw [rset_0]; exact hD, hS, lv_sub hl [0, 1, 2, 3, 4] rfl⟩
  intro i hi ih H locs ls ⟨hP, hD, hS, hl⟩
  refine lv_iload hx hb d_S_turn_3 (lv_at hl 0 rfl) ?_
  refine lv_iload_n hx hb d_S_turn_5 rfl (lv_at hl 4 rfl) ?_
  refine lv_bipush (v := nI 16) hx hb d_S_turn_6 (by decide) ?_
  refine n_mul hx hb d_S_turn_8 ?_
  refine z_icmp_ge (tgt := 46) hx hb (nI_toInt (by omega)) (nI_toInt (by omega)) d_S_turn_9 (by decide) (fun c_9 => ?_) (fun c_9 => ?_)
  · obtain rfl : rows * 16 = i := by omega
    exact fn_vret hx hb hr hlocks hAe hK hP hD hS d_S_turn_46
  · refine lv_aload_n hx hb d_S_turn_12 rfl (lv_at hl 1 rfl) ?_
    refine va_get (D := D) (ci := 1) (v := .ref hw) (C := R_S) (T := F_S) (N := 1) hx hb hts in_S hown hK hP 0 rfl rfl 0 (by decide) (hts _ wd_32) (fun _ h9 => h9) rfl d_S_turn_13 ?_
    refine lv_iload_n hx hb d_S_turn_16 rfl (lv_at hl 2 rfl) ?_
    refine lv_bipush (v := nI 16) hx hb d_S_turn_17 (by decide) ?_
    refine n_mul hx hb d_S_turn_19 ?_
    refine lv_iload hx hb d_S_turn_20 (lv_at hl 0 rfl) ?_
    refine n_add hx hb d_S_turn_22 ?_
    refine lv_aload_n hx hb d_S_turn_23 rfl (lv_at hl 1 rfl) ?_
    refine va_get (D := D) (ci := 1) (v := .ref hw) (C := R_S) (T := F_S) (N := 1) hx hb hts in_S hown hK hP 0 rfl rfl 0 (by decide) (hts _ wd_32) (fun _ h9 => h9) rfl d_S_turn_24 ?_
    refine lv_iload_n hx hb d_S_turn_27 rfl (lv_at hl 3 rfl) ?_
    refine lv_bipush (v := nI 16) hx hb d_S_turn_28 (by decide) ?_
    refine n_mul hx hb d_S_turn_30 ?_
    refine lv_iload hx hb d_S_turn_31 (lv_at hl 0 rfl) ?_
    refine n_add hx hb d_S_turn_33 ?_
    refine n_lald hx hb hK hP 1 0 rfl rfl (i := (a * 16) + i) (by omega) (by omega) d_S_turn_34 ?_
    refine lv_ldc2 (v := -1) hx hb hown (hts _ wd_46) d_S_turn_35 ?_
    refine lv_lxor hx hb d_S_turn_38 ?_
    refine n_last hx hb hK hP hD hS 1 0 rfl rfl (i := (to * 16) + i) (by omega) (by omega) (by rw [rset_rd _ w (to := to) (a := a) (i := i) (N := rows * 16) (by omega) (by omega)]; exact rset_st _ _ _ _) d_S_turn_39 (ws' := (setsW hs hw cL (rset (fun i => w (a * 16 + i) ^^^ (-1)) to (i + 1) w))) rfl (fun H locs hP hD hS => ?_)
    refine lv_iinc (v := nI (i + 1)) (lv' := [(4, .int (nI (i + 1))), (0, .ref hs), (1, .int (nI to)), (2, .int (nI a)), (3, .int (nI rows))]) hx hb d_S_turn_40 hl (k := 0) rfl (by rw [← nI_1]; rfl) (by decide) rfl (fun ls hl => ?_)
    refine lv_goto (tgt := 3) hx hb d_S_turn_43 (by decide) ?_
    exact ih _ _ _ (by omega) ⟨hP, hD, hS, lv_sub hl [0, 1, 2, 3, 4] rfl⟩
set_option maxHeartbeats 4000000 in
set_option maxRecDepth 100000 in
theorem c_S_remove (l : Launch) (D : va_G) (hs hw : Nat) (cL : ClassId) (w : Nat → Int64) (to a : Nat) (h1 : to + 1 ≤ 260) (h2 : a + 1 ≤ 260) (k2 : to ≤ a ∨ a + 1 ≤ to) : Fn l y_S_remove (wk y_S_remove b_S_remove 4 none) rm_S_remove D cls [(cL, .long)] [.ref hs, .int (nI to), .int (nI a)] (setsW hs hw cL w) XT none (setsW hs hw cL (oRemove to a w)) := by
  refine Fn.of (by decide) rfl (Nat.le_of_ble_eq_true rfl) ?_
  intro p e s m below meth c A ls hx hb hml hr hts0 hown hlocks hnm hP hK hD hS hA hAe hX hl
  have hts : ∀ w ∈ lw_ok, w.before _ s = true := fun w h => hts0 w (List.mem_cons_of_mem _ h)
  have hown : s.vm.findClass R_S = some m.cls := hown
  have hP : va_P D cls (setsW hs hw cL w) s.heap := hP
  have hl : lv_has ls 4 [(0, .ref hs), (1, .int (nI to)), (2, .int (nI a))] := hl
  refine lv_iconst (v := nI 0) hx hb d_S_remove_0 (by decide) ?_
  refine lv_istore_n (lv' := [(3, .int (nI 0)), (0, .ref hs), (1, .int (nI to)), (2, .int (nI a))]) hx hb d_S_remove_1 rfl hl (by decide) rfl (fun ls hl => ?_)
  refine w_loop 2 [] (16) (fun i H locs ls => va_P D cls (setsW hs hw cL (rset (fun i => w (to * 16 + i) &&& (w (a * 16 + i) ^^^ (-1))) to i w)) H ∧ va_D A (setsW hs hw cL (rset (fun i => w (to * 16 + i) &&& (w (a * 16 + i) ^^^ (-1))) to i w)) ∧ va_S A s.heap H locs ∧ lv_has ls 4 [(3, .int (nI i)), (0, .ref hs), (1, .int (nI to)), (2, .int (nI a))]) ?_ 0 (Nat.zero_le _) _ _ ls ⟨by rw [rset_0]; exact hP, by rw [rset_0]; exact hD, hS, lv_sub hl [0, 1, 2, 3] rfl⟩
  intro i hi ih H locs ls ⟨hP, hD, hS, hl⟩
  refine lv_iload_n hx hb d_S_remove_2 rfl (lv_at hl 0 rfl) ?_
  refine lv_bipush (v := nI 16) hx hb d_S_remove_3 (by decide) ?_
  refine z_icmp_ge (tgt := 52) hx hb (nI_toInt (by omega)) (nI_toInt (by omega)) d_S_remove_5 (by decide) (fun c_5 => ?_) (fun c_5 => ?_)
  · obtain rfl : 16 = i := by omega
    exact fn_vret hx hb hr hlocks hAe hK hP hD hS d_S_remove_52
  · refine lv_aload_n hx hb d_S_remove_8 rfl (lv_at hl 1 rfl) ?_
    refine va_get (D := D) (ci := 1) (v := .ref hw) (C := R_S) (T := F_S) (N := 1) hx hb hts in_S hown hK hP 0 rfl rfl 0 (by decide) (hts _ wd_32) (fun _ h9 => h9) rfl d_S_remove_9 ?_
    refine lv_iload_n hx hb d_S_remove_12 rfl (lv_at hl 2 rfl) ?_
    refine lv_bipush (v := nI 16) hx hb d_S_remove_13 (by decide) ?_
    refine n_mul hx hb d_S_remove_15 ?_
    refine lv_iload_n hx hb d_S_remove_16 rfl (lv_at hl 0 rfl) ?_
    refine n_add hx hb d_S_remove_17 ?_
    refine lv_aload_n hx hb d_S_remove_18 rfl (lv_at hl 1 rfl) ?_
    refine va_get (D := D) (ci := 1) (v := .ref hw) (C := R_S) (T := F_S) (N := 1) hx hb hts in_S hown hK hP 0 rfl rfl 0 (by decide) (hts _ wd_32) (fun _ h9 => h9) rfl d_S_remove_19 ?_
    refine lv_iload_n hx hb d_S_remove_22 rfl (lv_at hl 2 rfl) ?_
    refine lv_bipush (v := nI 16) hx hb d_S_remove_23 (by decide) ?_
    refine n_mul hx hb d_S_remove_25 ?_
    refine lv_iload_n hx hb d_S_remove_26 rfl (lv_at hl 0 rfl) ?_
    refine n_add hx hb d_S_remove_27 ?_
    refine n_lald hx hb hK hP 1 0 rfl rfl (i := (to * 16) + i) (by omega) (by omega) d_S_remove_28 ?_
    refine lv_aload_n hx hb d_S_remove_29 rfl (lv_at hl 1 rfl) ?_
    refine va_get (D := D) (ci := 1) (v := .ref hw) (C := R_S) (T := F_S) (N := 1) hx hb hts in_S hown hK hP 0 rfl rfl 0 (by decide) (hts _ wd_32) (fun _ h9 => h9) rfl d_S_remove_30 ?_
    refine lv_iload_n hx hb d_S_remove_33 rfl (lv_at hl 3 rfl) ?_
    refine lv_bipush (v := nI 16) hx hb d_S_remove_34 (by decide) ?_
    refine n_mul hx hb d_S_remove_36 ?_
    refine lv_iload_n hx hb d_S_remove_37 rfl (lv_at hl 0 rfl) ?_
    refine n_add hx hb d_S_remove_38 ?_
    refine n_lald hx hb hK hP 1 0 rfl rfl (i := (a * 16) + i) (by omega) (by omega) d_S_remove_39 ?_
    refine lv_ldc2 (v := -1) hx hb hown (hts _ wd_46) d_S_remove_40 ?_
    refine lv_lxor hx hb d_S_remove_43 ?_
    refine lv_land hx hb d_S_remove_44 ?_
    refine n_last hx hb hK hP hD hS 1 0 rfl rfl (i := (to * 16) + i) (by omega) (by omega) (by rw [rset_rd _ w (to := to) (a := to) (i := i) (N := 16) (by omega) (by omega), rset_rd _ w (to := to) (a := a) (i := i) (N := 16) (by omega) (by omega)]; exact rset_st _ _ _ _) d_S_remove_45 (ws' := (setsW hs hw cL (rset (fun i => w (to * 16 + i) &&& (w (a * 16 + i) ^^^ (-1))) to (i + 1) w))) rfl (fun H locs hP hD hS => ?_)
    refine lv_iinc (v := nI (i + 1)) (lv' := [(3, .int (nI (i + 1))), (0, .ref hs), (1, .int (nI to)), (2, .int (nI a))]) hx hb d_S_remove_46 hl (k := 0) rfl (by rw [← nI_1]; rfl) (by decide) rfl (fun ls hl => ?_)
    refine lv_goto (tgt := 2) hx hb d_S_remove_49 (by decide) ?_
    exact ih _ _ _ (by omega) ⟨hP, hD, hS, lv_sub hl [0, 1, 2, 3] rfl⟩
set_option maxHeartbeats 4000000 in
set_option maxRecDepth 100000 in
theorem c_S_choose (l : Launch) (D : va_G) (hs hw : Nat) (cL : ClassId) (w : Nat → Int64) (to cd ye no : Nat) (h1 : to + 1 ≤ 260) (h2 : cd + 1 ≤ 260) (h3 : ye + 1 ≤ 260) (h4 : no + 1 ≤ 260) (k2 : to ≤ cd ∨ cd + 1 ≤ to) (k3 : to ≤ ye ∨ ye + 1 ≤ to) (k4 : to ≤ no ∨ no + 1 ≤ to) : Fn l y_S_choose (wk y_S_choose b_S_choose 8 none) rm_S_choose D cls [(cL, .long)] [.ref hs, .int (nI to), .int (nI cd), .int (nI ye), .int (nI no)] (setsW hs hw cL w) XT none (setsW hs hw cL (oChoose to cd ye no w)) := by
  refine Fn.of (by decide) rfl (Nat.le_of_ble_eq_true rfl) ?_
  intro p e s m below meth c A ls hx hb hml hr hts0 hown hlocks hnm hP hK hD hS hA hAe hX hl
  have hts : ∀ w ∈ lw_ok, w.before _ s = true := fun w h => hts0 w (List.mem_cons_of_mem _ h)
  have hown : s.vm.findClass R_S = some m.cls := hown
  have hP : va_P D cls (setsW hs hw cL w) s.heap := hP
  have hl : lv_has ls 8 [(0, .ref hs), (1, .int (nI to)), (2, .int (nI cd)), (3, .int (nI ye)), (4, .int (nI no))] := hl
  refine lv_iconst (v := nI 0) hx hb d_S_choose_0 (by decide) ?_
  refine lv_istore (lv' := [(5, .int (nI 0)), (0, .ref hs), (1, .int (nI to)), (2, .int (nI cd)), (3, .int (nI ye)), (4, .int (nI no))]) hx hb d_S_choose_1 hl (by decide) rfl (fun ls hl => ?_)
  refine w_loop 3 [] (16) (fun i H locs ls => va_P D cls (setsW hs hw cL (rset (fun i => (w (cd * 16 + i) &&& w (ye * 16 + i)) ||| ((w (cd * 16 + i) ^^^ (-1)) &&& w (no * 16 + i))) to i w)) H ∧ va_D A (setsW hs hw cL (rset (fun i => (w (cd * 16 + i) &&& w (ye * 16 + i)) ||| ((w (cd * 16 + i) ^^^ (-1)) &&& w (no * 16 + i))) to i w)) ∧ va_S A s.heap H locs ∧ lv_has ls 8 [(5, .int (nI i)), (0, .ref hs), (1, .int (nI to)), (2, .int (nI cd)), (3, .int (nI ye)), (4, .int (nI no))]) ?_ 0 (Nat.zero_le _) _ _ ls ⟨by rw [rset_0]; exact hP, by rw [rset_0]; exact hD, hS, lv_sub hl [0, 1, 2, 3, 4, 5] rfl⟩
  intro i hi ih H locs ls ⟨hP, hD, hS, hl⟩
  refine lv_iload hx hb d_S_choose_3 (lv_at hl 0 rfl) ?_
  refine lv_bipush (v := nI 16) hx hb d_S_choose_5 (by decide) ?_
  refine z_icmp_ge (tgt := 78) hx hb (nI_toInt (by omega)) (nI_toInt (by omega)) d_S_choose_7 (by decide) (fun c_7 => ?_) (fun c_7 => ?_)
  · obtain rfl : 16 = i := by omega
    exact fn_vret hx hb hr hlocks hAe hK hP hD hS d_S_choose_78
  · refine lv_aload_n hx hb d_S_choose_10 rfl (lv_at hl 1 rfl) ?_
    refine va_get (D := D) (ci := 1) (v := .ref hw) (C := R_S) (T := F_S) (N := 1) hx hb hts in_S hown hK hP 0 rfl rfl 0 (by decide) (hts _ wd_32) (fun _ h9 => h9) rfl d_S_choose_11 ?_
    refine lv_iload_n hx hb d_S_choose_14 rfl (lv_at hl 3 rfl) ?_
    refine lv_bipush (v := nI 16) hx hb d_S_choose_15 (by decide) ?_
    refine n_mul hx hb d_S_choose_17 ?_
    refine lv_iload hx hb d_S_choose_18 (lv_at hl 0 rfl) ?_
    refine n_add hx hb d_S_choose_20 ?_
    refine n_lald hx hb hK hP 1 0 rfl rfl (i := (cd * 16) + i) (by omega) (by omega) d_S_choose_21 ?_
    refine lv_lstore (lv' := [(6, .long ((rset (fun i => (w (cd * 16 + i) &&& w (ye * 16 + i)) ||| ((w (cd * 16 + i) ^^^ (-1)) &&& w (no * 16 + i))) to i w) ((cd * 16) + i))), (5, .int (nI i)), (0, .ref hs), (1, .int (nI to)), (2, .int (nI cd)), (3, .int (nI ye)), (4, .int (nI no))]) hx hb d_S_choose_22 hl (by decide) rfl (fun ls hl => ?_)
    refine lv_aload_n hx hb d_S_choose_24 rfl (lv_at hl 2 rfl) ?_
    refine va_get (D := D) (ci := 1) (v := .ref hw) (C := R_S) (T := F_S) (N := 1) hx hb hts in_S hown hK hP 0 rfl rfl 0 (by decide) (hts _ wd_32) (fun _ h9 => h9) rfl d_S_choose_25 ?_
    refine lv_iload_n hx hb d_S_choose_28 rfl (lv_at hl 3 rfl) ?_
    refine lv_bipush (v := nI 16) hx hb d_S_choose_29 (by decide) ?_
    refine n_mul hx hb d_S_choose_31 ?_
    refine lv_iload hx hb d_S_choose_32 (lv_at hl 1 rfl) ?_
    refine n_add hx hb d_S_choose_34 ?_
    refine lv_lload hx hb d_S_choose_35 (lv_at hl 0 rfl) ?_
    refine lv_aload_n hx hb d_S_choose_37 rfl (lv_at hl 2 rfl) ?_
    refine va_get (D := D) (ci := 1) (v := .ref hw) (C := R_S) (T := F_S) (N := 1) hx hb hts in_S hown hK hP 0 rfl rfl 0 (by decide) (hts _ wd_32) (fun _ h9 => h9) rfl d_S_choose_38 ?_
    refine lv_iload_n hx hb d_S_choose_41 rfl (lv_at hl 5 rfl) ?_
    refine lv_bipush (v := nI 16) hx hb d_S_choose_42 (by decide) ?_
    refine n_mul hx hb d_S_choose_44 ?_
    refine lv_iload hx hb d_S_choose_45 (lv_at hl 1 rfl) ?_
    refine n_add hx hb d_S_choose_47 ?_
    refine n_lald hx hb hK hP 1 0 rfl rfl (i := (ye * 16) + i) (by omega) (by omega) d_S_choose_48 ?_
    refine lv_land hx hb d_S_choose_49 ?_
    refine lv_lload hx hb d_S_choose_50 (lv_at hl 0 rfl) ?_
    refine lv_ldc2 (v := -1) hx hb hown (hts _ wd_46) d_S_choose_52 ?_
    refine lv_lxor hx hb d_S_choose_55 ?_
    refine lv_aload_n hx hb d_S_choose_56 rfl (lv_at hl 2 rfl) ?_
    refine va_get (D := D) (ci := 1) (v := .ref hw) (C := R_S) (T := F_S) (N := 1) hx hb hts in_S hown hK hP 0 rfl rfl 0 (by decide) (hts _ wd_32) (fun _ h9 => h9) rfl d_S_choose_57 ?_
    refine lv_iload hx hb d_S_choose_60 (lv_at hl 6 rfl) ?_
    refine lv_bipush (v := nI 16) hx hb d_S_choose_62 (by decide) ?_
    refine n_mul hx hb d_S_choose_64 ?_
    refine lv_iload hx hb d_S_choose_65 (lv_at hl 1 rfl) ?_
    refine n_add hx hb d_S_choose_67 ?_
    refine n_lald hx hb hK hP 1 0 rfl rfl (i := (no * 16) + i) (by omega) (by omega) d_S_choose_68 ?_
    refine lv_land hx hb d_S_choose_69 ?_
    refine lv_lor hx hb d_S_choose_70 ?_
    refine n_last hx hb hK hP hD hS 1 0 rfl rfl (i := (to * 16) + i) (by omega) (by omega) (by rw [rset_rd _ w (to := to) (a := cd) (i := i) (N := 16) (by omega) (by omega), rset_rd _ w (to := to) (a := ye) (i := i) (N := 16) (by omega) (by omega), rset_rd _ w (to := to) (a := no) (i := i) (N := 16) (by omega) (by omega)]; exact rset_st _ _ _ _) d_S_choose_71 (ws' := (setsW hs hw cL (rset (fun i => (w (cd * 16 + i) &&& w (ye * 16 + i)) ||| ((w (cd * 16 + i) ^^^ (-1)) &&& w (no * 16 + i))) to (i + 1) w))) rfl (fun H locs hP hD hS => ?_)
    refine lv_iinc (v := nI (i + 1)) (lv' := [(5, .int (nI (i + 1))), (6, .long ((rset (fun i => (w (cd * 16 + i) &&& w (ye * 16 + i)) ||| ((w (cd * 16 + i) ^^^ (-1)) &&& w (no * 16 + i))) to i w) ((cd * 16) + i))), (0, .ref hs), (1, .int (nI to)), (2, .int (nI cd)), (3, .int (nI ye)), (4, .int (nI no))]) hx hb d_S_choose_72 hl (k := 1) rfl (by rw [← nI_1]; rfl) (by decide) rfl (fun ls hl => ?_)
    refine lv_goto (tgt := 3) hx hb d_S_choose_75 (by decide) ?_
    exact ih _ _ _ (by omega) ⟨hP, hD, hS, lv_sub hl [0, 2, 3, 4, 5, 6] rfl⟩
set_option maxHeartbeats 4000000 in
set_option maxRecDepth 100000 in
theorem c_S_fill (l : Launch) (D : va_G) (hs hw : Nat) (cL : ClassId) (w : Nat → Int64) (to rows : Nat) (al : Bool) (h1 : to + rows ≤ 260) : Fn l y_S_fill (wk y_S_fill b_S_fill 5 none) rm_S_fill D cls [(cL, .long)] [.ref hs, .int (nI to), .int (nI rows), .int (bI al)] (setsW hs hw cL w) XT none (setsW hs hw cL (oFill al to rows w)) := by
  refine Fn.of (by decide) rfl (Nat.le_of_ble_eq_true rfl) ?_
  intro p e s m below meth c A ls hx hb hml hr hts0 hown hlocks hnm hP hK hD hS hA hAe hX hl
  have hts : ∀ w ∈ lw_ok, w.before _ s = true := fun w h => hts0 w (List.mem_cons_of_mem _ h)
  have hown : s.vm.findClass R_S = some m.cls := hown
  have hP : va_P D cls (setsW hs hw cL w) s.heap := hP
  have hl : lv_has ls 5 [(0, .ref hs), (1, .int (nI to)), (2, .int (nI rows)), (3, .int (bI al))] := hl
  refine lv_iconst (v := nI 0) hx hb d_S_fill_0 (by decide) ?_
  refine lv_istore (lv' := [(4, .int (nI 0)), (0, .ref hs), (1, .int (nI to)), (2, .int (nI rows)), (3, .int (bI al))]) hx hb d_S_fill_1 hl (by decide) rfl (fun ls hl => ?_)
  refine w_loop 3 [] (rows * 16) (fun i H locs ls => va_P D cls (setsW hs hw cL (rset (fun _ => bL al) to i w)) H ∧ va_D A (setsW hs hw cL (rset (fun _ => bL al) to i w)) ∧ va_S A s.heap H locs ∧ lv_has ls 5 [(4, .int (nI i)), (0, .ref hs), (1, .int (nI to)), (2, .int (nI rows)), (3, .int (bI al))]) ?_ 0 (Nat.zero_le _) _ _ ls ⟨by rw [rset_0]; exact hP, by rw [rset_0]; exact hD, hS, lv_sub hl [0, 1, 2, 3, 4] rfl⟩
  intro i hi ih H locs ls ⟨hP, hD, hS, hl⟩
  refine lv_iload hx hb d_S_fill_3 (lv_at hl 0 rfl) ?_
  refine lv_iload_n hx hb d_S_fill_5 rfl (lv_at hl 3 rfl) ?_
  refine lv_bipush (v := nI 16) hx hb d_S_fill_6 (by decide) ?_
  refine n_mul hx hb d_S_fill_8 ?_
  refine z_icmp_ge (tgt := 41) hx hb (nI_toInt (by omega)) (nI_toInt (by omega)) d_S_fill_9 (by decide) (fun c_9 => ?_) (fun c_9 => ?_)
  · obtain rfl : rows * 16 = i := by omega
    exact fn_vret hx hb hr hlocks hAe hK hP hD hS d_S_fill_41
  · refine lv_aload_n hx hb d_S_fill_12 rfl (lv_at hl 1 rfl) ?_
    refine va_get (D := D) (ci := 1) (v := .ref hw) (C := R_S) (T := F_S) (N := 1) hx hb hts in_S hown hK hP 0 rfl rfl 0 (by decide) (hts _ wd_32) (fun _ h9 => h9) rfl d_S_fill_13 ?_
    refine lv_iload_n hx hb d_S_fill_16 rfl (lv_at hl 2 rfl) ?_
    refine lv_bipush (v := nI 16) hx hb d_S_fill_17 (by decide) ?_
    refine n_mul hx hb d_S_fill_19 ?_
    refine lv_iload hx hb d_S_fill_20 (lv_at hl 0 rfl) ?_
    refine n_add hx hb d_S_fill_22 ?_
    refine lv_iload_n hx hb d_S_fill_23 rfl (lv_at hl 4 rfl) ?_
    refine b_if_eq (tgt := 33) hx hb d_S_fill_24 (by decide) (fun c_24 => ?_) (fun c_24 => ?_)
    · refine lv_lconst (v := 0) hx hb d_S_fill_33 (by decide) ?_
      refine n_last hx hb hK hP hD hS 1 0 rfl rfl (i := (to * 16) + i) (by omega) (by omega) (by rw [show (0 : Int64) = bL al by rw [c_24]; rfl]; exact rset_st (fun _ => bL al) _ _ _) d_S_fill_34 (ws' := (setsW hs hw cL (rset (fun _ => bL al) to (i + 1) w))) rfl (fun H locs hP hD hS => ?_)
      refine lv_iinc (v := nI (i + 1)) (lv' := [(4, .int (nI (i + 1))), (0, .ref hs), (1, .int (nI to)), (2, .int (nI rows)), (3, .int (bI al))]) hx hb d_S_fill_35 hl (k := 0) rfl (by rw [← nI_1]; rfl) (by decide) rfl (fun ls hl => ?_)
      refine lv_goto (tgt := 3) hx hb d_S_fill_38 (by decide) ?_
      exact ih _ _ _ (by omega) ⟨hP, hD, hS, lv_sub hl [0, 1, 2, 3, 4] rfl⟩
    · refine lv_ldc2 (v := -1) hx hb hown (hts _ wd_46) d_S_fill_27 ?_
      refine lv_goto (tgt := 34) hx hb d_S_fill_30 (by decide) ?_
      refine n_last hx hb hK hP hD hS 1 0 rfl rfl (i := (to * 16) + i) (by omega) (by omega) (by rw [show (-1 : Int64) = bL al by rw [c_24]; rfl]; exact rset_st (fun _ => bL al) _ _ _) d_S_fill_34 (ws' := (setsW hs hw cL (rset (fun _ => bL al) to (i + 1) w))) rfl (fun H locs hP hD hS => ?_)
      refine lv_iinc (v := nI (i + 1)) (lv' := [(4, .int (nI (i + 1))), (0, .ref hs), (1, .int (nI to)), (2, .int (nI rows)), (3, .int (bI al))]) hx hb d_S_fill_35 hl (k := 0) rfl (by rw [← nI_1]; rfl) (by decide) rfl (fun ls hl => ?_)
      refine lv_goto (tgt := 3) hx hb d_S_fill_38 (by decide) ?_
      exact ih _ _ _ (by omega) ⟨hP, hD, hS, lv_sub hl [0, 1, 2, 3, 4] rfl⟩
set_option maxHeartbeats 4000000 in
set_option maxRecDepth 100000 in
theorem c_S_wordByPlace (l : Launch) (D : va_G) (n0 t0 : Nat) (i place : Nat) (h1 : i < 16) (h2 : place < 10) : Fn l y_S_wordByPlace (wk y_S_wordByPlace b_S_wordByPlace 2 (some .long)) rm_S_wordByPlace D cls [] [.int (nI i), .int (nI place)] (nilW) (Zt n0 t0) (some (.long (wbp i place))) (nilW) := by
  refine Fn.of (by decide) rfl (Nat.le_of_ble_eq_true rfl) ?_
  intro p e s m below meth c A ls hx hb hml hr hts0 hown hlocks hnm hP hK hD hS hA hAe hX hl
  have hts : ∀ w ∈ lw_ok, w.before _ s = true := fun w h => hts0 w (List.mem_cons_of_mem _ h)
  have hown : s.vm.findClass R_S = some m.cls := hown
  have hP : va_P D cls (nilW) s.heap := hP
  have hl : lv_has ls 2 [(0, .int (nI i)), (1, .int (nI place))] := hl
  have hAn : ∀ q, A q → n0 ≤ q := fun q h => by rw [hAe] at h; exact Zt_A0 hX h
  refine lv_iload_n hx hb d_S_wordByPlace_0 rfl (lv_at hl 1 rfl) ?_
  refine lv_bipush (v := nI 6) hx hb d_S_wordByPlace_1 (by decide) ?_
  refine z_icmp_ge (tgt := 12) hx hb (nI_toInt (by omega)) (nI_toInt (by omega)) d_S_wordByPlace_3 (by decide) (fun c_3 => ?_) (fun c_3 => ?_)
  · refine lv_iload_n hx hb d_S_wordByPlace_12 rfl (lv_at hl 0 rfl) ?_
    refine lv_iload_n hx hb d_S_wordByPlace_13 rfl (lv_at hl 1 rfl) ?_
    refine lv_bipush (v := nI 6) hx hb d_S_wordByPlace_14 (by decide) ?_
    refine n_sub hx hb (by omega) d_S_wordByPlace_16 ?_
    refine n_shr hx hb (by omega) (by omega) d_S_wordByPlace_17 ?_
    refine lv_iconst (v := nI 1) hx hb d_S_wordByPlace_18 (by decide) ?_
    refine n_and1 hx hb d_S_wordByPlace_19 ?_
    refine lv_iconst (v := nI 1) hx hb d_S_wordByPlace_20 (by decide) ?_
    refine z_icmp_ne (tgt := 30) hx hb (nI_toInt (by omega)) (nI_toInt (by omega)) d_S_wordByPlace_21 (by decide) (fun c_21 => ?_) (fun c_21 => ?_)
    · refine lv_lconst (v := 0) hx hb d_S_wordByPlace_30 (by decide) ?_
      exact fn_lret hx hb hr hlocks hAe hK hP hD hS (wbp_0 (by omega) (by omega)) d_S_wordByPlace_31
    · refine lv_ldc2 (v := -1) hx hb hown (hts _ wd_46) d_S_wordByPlace_24 ?_
      refine lv_goto (tgt := 31) hx hb d_S_wordByPlace_27 (by decide) ?_
      exact fn_lret hx hb hr hlocks hAe hK hP hD hS (wbp_1 (by omega) (by omega)) d_S_wordByPlace_31
  · refine va_gets hx hb (hX.2.1.narrow hAn) hS hown (hts _ wd_283) (fun _ h9 => h9) d_S_wordByPlace_6 ?_
    refine lv_iload_n hx hb d_S_wordByPlace_9 rfl (lv_at hl 1 rfl) ?_
    refine va_tl hx hb (hX.2.2.narrow hAn) hS (vp_in_nI (n := place) (by omega) (by omega)) (v := .long (wbpT place)) (by rw [nI_clamp (by omega)]) d_S_wordByPlace_10 ?_
    exact fn_lret hx hb hr hlocks hAe hK hP hD hS (wbp_lo (by omega)) d_S_wordByPlace_11
set_option maxHeartbeats 4000000 in
set_option maxRecDepth 100000 in
theorem c_S_fillByPlace (l : Launch) (D : va_G) (n0 t0 : Nat) (hs hw : Nat) (cL : ClassId) (w : Nat → Int64) (to place : Nat) (h1 : to + 1 ≤ 260) (h2 : place < 10) (u1 : n0 ≤ hs) (u2 : n0 ≤ hw) : Fn l y_S_fillByPlace (wk y_S_fillByPlace b_S_fillByPlace 4 none) rm_S_fillByPlace D cls [(cL, .long)] [.ref hs, .int (nI to), .int (nI place)] (setsW hs hw cL w) (Zt n0 t0) none (setsW hs hw cL (oPlace to place w)) := by
  refine Fn.of (by decide) rfl (Nat.le_of_ble_eq_true rfl) ?_
  intro p e s m below meth c A ls hx hb hml hr hts0 hown hlocks hnm hP hK hD hS hA hAe hX hl
  have hts : ∀ w ∈ lw_ok, w.before _ s = true := fun w h => hts0 w (List.mem_cons_of_mem _ h)
  have hown : s.vm.findClass R_S = some m.cls := hown
  have hP : va_P D cls (setsW hs hw cL w) s.heap := hP
  have hl : lv_has ls 4 [(0, .ref hs), (1, .int (nI to)), (2, .int (nI place))] := hl
  have hAn : ∀ q, A q → n0 ≤ q := fun q h => by rw [hAe] at h; exact Zt_A2 hX u1 u2 h
  refine lv_iconst (v := nI 0) hx hb d_S_fillByPlace_0 (by decide) ?_
  refine lv_istore_n (lv' := [(3, .int (nI 0)), (0, .ref hs), (1, .int (nI to)), (2, .int (nI place))]) hx hb d_S_fillByPlace_1 rfl hl (by decide) rfl (fun ls hl => ?_)
  refine w_loop 2 [] (16) (fun i H locs ls => va_P D cls (setsW hs hw cL (rset (fun i => wbp i place) to i w)) H ∧ va_D A (setsW hs hw cL (rset (fun i => wbp i place) to i w)) ∧ va_S A s.heap H locs ∧ lv_has ls 4 [(3, .int (nI i)), (0, .ref hs), (1, .int (nI to)), (2, .int (nI place))]) ?_ 0 (Nat.zero_le _) _ _ ls ⟨by rw [rset_0]; exact hP, by rw [rset_0]; exact hD, hS, lv_sub hl [0, 1, 2, 3] rfl⟩
  intro i hi ih H locs ls ⟨hP, hD, hS, hl⟩
  refine lv_iload_n hx hb d_S_fillByPlace_2 rfl (lv_at hl 0 rfl) ?_
  refine lv_bipush (v := nI 16) hx hb d_S_fillByPlace_3 (by decide) ?_
  refine z_icmp_ge (tgt := 30) hx hb (nI_toInt (by omega)) (nI_toInt (by omega)) d_S_fillByPlace_5 (by decide) (fun c_5 => ?_) (fun c_5 => ?_)
  · obtain rfl : 16 = i := by omega
    exact fn_vret hx hb hr hlocks hAe hK hP hD hS d_S_fillByPlace_30
  · refine lv_aload_n hx hb d_S_fillByPlace_8 rfl (lv_at hl 1 rfl) ?_
    refine va_get (D := D) (ci := 1) (v := .ref hw) (C := R_S) (T := F_S) (N := 1) hx hb hts in_S hown hK hP 0 rfl rfl 0 (by decide) (hts _ wd_32) (fun _ h9 => h9) rfl d_S_fillByPlace_9 ?_
    refine lv_iload_n hx hb d_S_fillByPlace_12 rfl (lv_at hl 2 rfl) ?_
    refine lv_bipush (v := nI 16) hx hb d_S_fillByPlace_13 (by decide) ?_
    refine n_mul hx hb d_S_fillByPlace_15 ?_
    refine lv_iload_n hx hb d_S_fillByPlace_16 rfl (lv_at hl 0 rfl) ?_
    refine n_add hx hb d_S_fillByPlace_17 ?_
    refine lv_iload_n hx hb d_S_fillByPlace_18 rfl (lv_at hl 0 rfl) ?_
    refine lv_iload_n hx hb d_S_fillByPlace_19 rfl (lv_at hl 3 rfl) ?_
    refine fn_S (ws' := (setsW hs hw cL (rset (fun i => wbp i place) to i w))) (w1 := (nilW)) (wc := (nilW)) (wr := [(hs, .inr (1, [.ref hw])), (hw, .inl (cL, 4160, .inr (.inl (rset (fun i => wbp i place) to i w))))]) ⟨hx, hb, hml, hown, hts⟩ (c_S_wordByPlace l D n0 t0 i place (by omega) (by omega)) ⟨callB_of 2 hts (gW wd_282) rfl rfl rfl (hts _ wd_3) (hts _ wd_280) hd_S_wordByPlace ⟨Nat.le_of_ble_eq_true rfl, Nat.le_of_ble_eq_true rfl⟩, hts _ wd_281⟩ Zt_ok (Zt_kept hX hS hAn) hK hP hD hS hA [] [] [0, 1] [0, 1] rfl rfl rfl rfl rfl (by decide) rfl rfl rfl hl.1 rfl (Nat.le_of_ble_eq_true rfl) d_S_fillByPlace_20 ⟨Nat.zero_le _, Nat.zero_le _⟩ (st1 := [.long (wbp i place), .int (nI ((to * 16) + i)), .ref hw]) rfl (fun H locs hP hD hS => ?_)
    refine n_last hx hb hK hP hD hS 1 0 rfl rfl (i := (to * 16) + i) (by omega) (by omega) (rset_st (fun i => wbp i place) _ _ _) d_S_fillByPlace_23 (ws' := (setsW hs hw cL (rset (fun i => wbp i place) to (i + 1) w))) rfl (fun H locs hP hD hS => ?_)
    refine lv_iinc (v := nI (i + 1)) (lv' := [(3, .int (nI (i + 1))), (0, .ref hs), (1, .int (nI to)), (2, .int (nI place))]) hx hb d_S_fillByPlace_24 hl (k := 0) rfl (by rw [← nI_1]; rfl) (by decide) rfl (fun ls hl => ?_)
    refine lv_goto (tgt := 2) hx hb d_S_fillByPlace_27 (by decide) ?_
    exact ih _ _ _ (by omega) ⟨hP, hD, hS, lv_sub hl [0, 1, 2, 3] rfl⟩
set_option maxHeartbeats 4000000 in
set_option maxRecDepth 100000 in
theorem c_S_isWithout (l : Launch) (D : va_G) (hs hw : Nat) (cL : ClassId) (w : Nat → Int64) (a b : Nat) (h1 : a + 1 ≤ 260) (h2 : b + 1 ≤ 260) : Fn l y_S_isWithout (wk y_S_isWithout b_S_isWithout 4 (some .boolean)) rm_S_isWithout D cls [(cL, .long)] [.ref hs, .int (nI a), .int (nI b)] (setsW hs hw cL w) XT (some (.int (bI (pNone w a b)))) (setsW hs hw cL w) := by
  refine Fn.of (by decide) rfl (Nat.le_of_ble_eq_true rfl) ?_
  intro p e s m below meth c A ls hx hb hml hr hts0 hown hlocks hnm hP hK hD hS hA hAe hX hl
  have hts : ∀ w ∈ lw_ok, w.before _ s = true := fun w h => hts0 w (List.mem_cons_of_mem _ h)
  have hown : s.vm.findClass R_S = some m.cls := hown
  have hP : va_P D cls (setsW hs hw cL w) s.heap := hP
  have hl : lv_has ls 4 [(0, .ref hs), (1, .int (nI a)), (2, .int (nI b))] := hl
  refine lv_iconst (v := nI 0) hx hb d_S_isWithout_0 (by decide) ?_
  refine lv_istore_n (lv' := [(3, .int (nI 0)), (0, .ref hs), (1, .int (nI a)), (2, .int (nI b))]) hx hb d_S_isWithout_1 rfl hl (by decide) rfl (fun ls hl => ?_)
  refine w_loop 2 [] (16) (fun i H locs ls => va_P D cls (setsW hs hw cL w) H ∧ va_D A (setsW hs hw cL w) ∧ va_S A s.heap H locs ∧ lv_has ls 4 [(3, .int (nI i)), (0, .ref hs), (1, .int (nI a)), (2, .int (nI b))] ∧ ∀ j, j < i → w (a * 16 + j) &&& w (b * 16 + j) = 0) ?_ 0 (Nat.zero_le _) _ _ ls ⟨hP, hD, hS, lv_sub hl [0, 1, 2, 3] rfl, fun j hj => absurd hj (Nat.not_lt_zero j)⟩
  intro i hi ih H locs ls ⟨hP, hD, hS, hl, hJ⟩
  refine lv_iload_n hx hb d_S_isWithout_2 rfl (lv_at hl 0 rfl) ?_
  refine lv_bipush (v := nI 16) hx hb d_S_isWithout_3 (by decide) ?_
  refine z_icmp_ge (tgt := 44) hx hb (nI_toInt (by omega)) (nI_toInt (by omega)) d_S_isWithout_5 (by decide) (fun c_5 => ?_) (fun c_5 => ?_)
  · refine lv_iconst (v := nI 1) hx hb d_S_isWithout_44 (by decide) ?_
    exact fn_zret hx hb hr hlocks hAe hK hP hD hS (by rw [pNone_yes (fun j hj => hJ j (by omega))]; rfl) d_S_isWithout_45
  · refine lv_aload_n hx hb d_S_isWithout_8 rfl (lv_at hl 1 rfl) ?_
    refine va_get (D := D) (ci := 1) (v := .ref hw) (C := R_S) (T := F_S) (N := 1) hx hb hts in_S hown hK hP 0 rfl rfl 0 (by decide) (hts _ wd_32) (fun _ h9 => h9) rfl d_S_isWithout_9 ?_
    refine lv_iload_n hx hb d_S_isWithout_12 rfl (lv_at hl 2 rfl) ?_
    refine lv_bipush (v := nI 16) hx hb d_S_isWithout_13 (by decide) ?_
    refine n_mul hx hb d_S_isWithout_15 ?_
    refine lv_iload_n hx hb d_S_isWithout_16 rfl (lv_at hl 0 rfl) ?_
    refine n_add hx hb d_S_isWithout_17 ?_
    refine n_lald hx hb hK hP 1 0 rfl rfl (i := (a * 16) + i) (by omega) (by omega) d_S_isWithout_18 ?_
    refine lv_aload_n hx hb d_S_isWithout_19 rfl (lv_at hl 1 rfl) ?_
    refine va_get (D := D) (ci := 1) (v := .ref hw) (C := R_S) (T := F_S) (N := 1) hx hb hts in_S hown hK hP 0 rfl rfl 0 (by decide) (hts _ wd_32) (fun _ h9 => h9) rfl d_S_isWithout_20 ?_
    refine lv_iload_n hx hb d_S_isWithout_23 rfl (lv_at hl 3 rfl) ?_
    refine lv_bipush (v := nI 16) hx hb d_S_isWithout_24 (by decide) ?_
    refine n_mul hx hb d_S_isWithout_26 ?_
    refine lv_iload_n hx hb d_S_isWithout_27 rfl (lv_at hl 0 rfl) ?_
    refine n_add hx hb d_S_isWithout_28 ?_
    refine n_lald hx hb hK hP 1 0 rfl rfl (i := (b * 16) + i) (by omega) (by omega) d_S_isWithout_29 ?_
    refine lv_land hx hb d_S_isWithout_30 ?_
    refine lv_lconst (v := 0) hx hb d_S_isWithout_31 (by decide) ?_
    refine W.lcmp hx hb d_S_isWithout_32 ?_
    refine l_if_eq (tgt := 38) hx hb d_S_isWithout_33 (by decide) (fun c_33 => ?_) (fun c_33 => ?_)
    · refine lv_iinc (v := nI (i + 1)) (lv' := [(3, .int (nI (i + 1))), (0, .ref hs), (1, .int (nI a)), (2, .int (nI b))]) hx hb d_S_isWithout_38 hl (k := 0) rfl (by rw [← nI_1]; rfl) (by decide) rfl (fun ls hl => ?_)
      refine lv_goto (tgt := 2) hx hb d_S_isWithout_41 (by decide) ?_
      exact ih _ _ _ (by omega) ⟨hP, hD, hS, lv_sub hl [0, 1, 2, 3] rfl, lt_s hJ c_33⟩
    · refine lv_iconst (v := nI 0) hx hb d_S_isWithout_36 (by decide) ?_
      exact fn_zret hx hb hr hlocks hAe hK hP hD hS (by rw [pNone_no (by omega) c_33]; rfl) d_S_isWithout_37
set_option maxHeartbeats 4000000 in
set_option maxRecDepth 100000 in
theorem c_S_isWithin (l : Launch) (D : va_G) (hs hw : Nat) (cL : ClassId) (w : Nat → Int64) (a b : Nat) (h1 : a + 1 ≤ 260) (h2 : b + 1 ≤ 260) : Fn l y_S_isWithin (wk y_S_isWithin b_S_isWithin 4 (some .boolean)) rm_S_isWithin D cls [(cL, .long)] [.ref hs, .int (nI a), .int (nI b)] (setsW hs hw cL w) XT (some (.int (bI (pWithin w a b)))) (setsW hs hw cL w) := by
  refine Fn.of (by decide) rfl (Nat.le_of_ble_eq_true rfl) ?_
  intro p e s m below meth c A ls hx hb hml hr hts0 hown hlocks hnm hP hK hD hS hA hAe hX hl
  have hts : ∀ w ∈ lw_ok, w.before _ s = true := fun w h => hts0 w (List.mem_cons_of_mem _ h)
  have hown : s.vm.findClass R_S = some m.cls := hown
  have hP : va_P D cls (setsW hs hw cL w) s.heap := hP
  have hl : lv_has ls 4 [(0, .ref hs), (1, .int (nI a)), (2, .int (nI b))] := hl
  refine lv_iconst (v := nI 0) hx hb d_S_isWithin_0 (by decide) ?_
  refine lv_istore_n (lv' := [(3, .int (nI 0)), (0, .ref hs), (1, .int (nI a)), (2, .int (nI b))]) hx hb d_S_isWithin_1 rfl hl (by decide) rfl (fun ls hl => ?_)
  refine w_loop 2 [] (16) (fun i H locs ls => va_P D cls (setsW hs hw cL w) H ∧ va_D A (setsW hs hw cL w) ∧ va_S A s.heap H locs ∧ lv_has ls 4 [(3, .int (nI i)), (0, .ref hs), (1, .int (nI a)), (2, .int (nI b))] ∧ ∀ j, j < i → w (a * 16 + j) &&& (w (b * 16 + j) ^^^ (-1)) = 0) ?_ 0 (Nat.zero_le _) _ _ ls ⟨hP, hD, hS, lv_sub hl [0, 1, 2, 3] rfl, fun j hj => absurd hj (Nat.not_lt_zero j)⟩
  intro i hi ih H locs ls ⟨hP, hD, hS, hl, hJ⟩
  refine lv_iload_n hx hb d_S_isWithin_2 rfl (lv_at hl 0 rfl) ?_
  refine lv_bipush (v := nI 16) hx hb d_S_isWithin_3 (by decide) ?_
  refine z_icmp_ge (tgt := 48) hx hb (nI_toInt (by omega)) (nI_toInt (by omega)) d_S_isWithin_5 (by decide) (fun c_5 => ?_) (fun c_5 => ?_)
  · refine lv_iconst (v := nI 1) hx hb d_S_isWithin_48 (by decide) ?_
    exact fn_zret hx hb hr hlocks hAe hK hP hD hS (by rw [pWithin_yes (fun j hj => hJ j (by omega))]; rfl) d_S_isWithin_49
  · refine lv_aload_n hx hb d_S_isWithin_8 rfl (lv_at hl 1 rfl) ?_
    refine va_get (D := D) (ci := 1) (v := .ref hw) (C := R_S) (T := F_S) (N := 1) hx hb hts in_S hown hK hP 0 rfl rfl 0 (by decide) (hts _ wd_32) (fun _ h9 => h9) rfl d_S_isWithin_9 ?_
    refine lv_iload_n hx hb d_S_isWithin_12 rfl (lv_at hl 2 rfl) ?_
    refine lv_bipush (v := nI 16) hx hb d_S_isWithin_13 (by decide) ?_
    refine n_mul hx hb d_S_isWithin_15 ?_
    refine lv_iload_n hx hb d_S_isWithin_16 rfl (lv_at hl 0 rfl) ?_
    refine n_add hx hb d_S_isWithin_17 ?_
    refine n_lald hx hb hK hP 1 0 rfl rfl (i := (a * 16) + i) (by omega) (by omega) d_S_isWithin_18 ?_
    refine lv_aload_n hx hb d_S_isWithin_19 rfl (lv_at hl 1 rfl) ?_
    refine va_get (D := D) (ci := 1) (v := .ref hw) (C := R_S) (T := F_S) (N := 1) hx hb hts in_S hown hK hP 0 rfl rfl 0 (by decide) (hts _ wd_32) (fun _ h9 => h9) rfl d_S_isWithin_20 ?_
    refine lv_iload_n hx hb d_S_isWithin_23 rfl (lv_at hl 3 rfl) ?_
    refine lv_bipush (v := nI 16) hx hb d_S_isWithin_24 (by decide) ?_
    refine n_mul hx hb d_S_isWithin_26 ?_
    refine lv_iload_n hx hb d_S_isWithin_27 rfl (lv_at hl 0 rfl) ?_
    refine n_add hx hb d_S_isWithin_28 ?_
    refine n_lald hx hb hK hP 1 0 rfl rfl (i := (b * 16) + i) (by omega) (by omega) d_S_isWithin_29 ?_
    refine lv_ldc2 (v := -1) hx hb hown (hts _ wd_46) d_S_isWithin_30 ?_
    refine lv_lxor hx hb d_S_isWithin_33 ?_
    refine lv_land hx hb d_S_isWithin_34 ?_
    refine lv_lconst (v := 0) hx hb d_S_isWithin_35 (by decide) ?_
    refine W.lcmp hx hb d_S_isWithin_36 ?_
    refine l_if_eq (tgt := 42) hx hb d_S_isWithin_37 (by decide) (fun c_37 => ?_) (fun c_37 => ?_)
    · refine lv_iinc (v := nI (i + 1)) (lv' := [(3, .int (nI (i + 1))), (0, .ref hs), (1, .int (nI a)), (2, .int (nI b))]) hx hb d_S_isWithin_42 hl (k := 0) rfl (by rw [← nI_1]; rfl) (by decide) rfl (fun ls hl => ?_)
      refine lv_goto (tgt := 2) hx hb d_S_isWithin_45 (by decide) ?_
      exact ih _ _ _ (by omega) ⟨hP, hD, hS, lv_sub hl [0, 1, 2, 3] rfl, lt_s hJ c_37⟩
    · refine lv_iconst (v := nI 0) hx hb d_S_isWithin_40 (by decide) ?_
      exact fn_zret hx hb hr hlocks hAe hK hP hD hS (by rw [pWithin_no (by omega) c_37]; rfl) d_S_isWithin_41
set_option maxHeartbeats 4000000 in
set_option maxRecDepth 100000 in
theorem c_S_isEmpty (l : Launch) (D : va_G) (hs hw : Nat) (cL : ClassId) (w : Nat → Int64) (a : Nat) (h1 : a + 1 ≤ 260) : Fn l y_S_isEmpty (wk y_S_isEmpty b_S_isEmpty 2 (some .boolean)) rm_S_isEmpty D cls [(cL, .long)] [.ref hs, .int (nI a)] (setsW hs hw cL w) XT (some (.int (bI (pNone w a a)))) (setsW hs hw cL w) := by
  refine Fn.of (by decide) rfl (Nat.le_of_ble_eq_true rfl) ?_
  intro p e s m below meth c A ls hx hb hml hr hts0 hown hlocks hnm hP hK hD hS hA hAe hX hl
  have hts : ∀ w ∈ lw_ok, w.before _ s = true := fun w h => hts0 w (List.mem_cons_of_mem _ h)
  have hown : s.vm.findClass R_S = some m.cls := hown
  have hP : va_P D cls (setsW hs hw cL w) s.heap := hP
  have hl : lv_has ls 2 [(0, .ref hs), (1, .int (nI a))] := hl
  refine lv_aload_n hx hb d_S_isEmpty_0 rfl (lv_at hl 0 rfl) ?_
  refine lv_iload_n hx hb d_S_isEmpty_1 rfl (lv_at hl 1 rfl) ?_
  refine lv_iload_n hx hb d_S_isEmpty_2 rfl (lv_at hl 1 rfl) ?_
  refine fn_V (ws' := (setsW hs hw cL w)) (w1 := (setsW hs hw cL w)) (wc := (setsW hs hw cL w)) (wr := []) ⟨hx, hb, hml, hown, hts⟩ (c_S_isWithout l D hs hw cL w a a (by omega) (by omega)) ⟨callB_of 2 hts (gW wd_110) rfl rfl rfl (hts _ wd_3) (hts _ wd_107) hd_S_isWithout ⟨Nat.le_of_ble_eq_true rfl, Nat.le_of_ble_eq_true rfl⟩, hts _ wd_109, hts _ wd_p2⟩ XT_ok (fun _ _ _ => trivial) hK hP hD hS hA 0 1 rfl rfl rfl [0] [0, 1] [] [0, 1] rfl rfl rfl rfl rfl (by decide) rfl rfl rfl hl.1 rfl (Nat.le_of_ble_eq_true rfl) d_S_isEmpty_3 ⟨Nat.zero_le _, Nat.zero_le _⟩ (st1 := [.int (bI (pNone w a a))]) rfl (fun H locs hP hD hS => ?_)
  exact fn_zret hx hb hr hlocks hAe hK hP hD hS rfl d_S_isEmpty_6
set_option maxHeartbeats 4000000 in
set_option maxRecDepth 100000 in
theorem c_S_meets (l : Launch) (D : va_G) (hs hw : Nat) (cL : ClassId) (w : Nat → Int64) (a b : Nat) (h1 : a + 1 ≤ 260) (h2 : b + 1 ≤ 260) : Fn l y_S_meets (wk y_S_meets b_S_meets 3 (some .boolean)) rm_S_meets D cls [(cL, .long)] [.ref hs, .int (nI a), .int (nI b)] (setsW hs hw cL w) XT (some (.int (bI (!pNone w a b)))) (setsW hs hw cL w) := by
  refine Fn.of (by decide) rfl (Nat.le_of_ble_eq_true rfl) ?_
  intro p e s m below meth c A ls hx hb hml hr hts0 hown hlocks hnm hP hK hD hS hA hAe hX hl
  have hts : ∀ w ∈ lw_ok, w.before _ s = true := fun w h => hts0 w (List.mem_cons_of_mem _ h)
  have hown : s.vm.findClass R_S = some m.cls := hown
  have hP : va_P D cls (setsW hs hw cL w) s.heap := hP
  have hl : lv_has ls 3 [(0, .ref hs), (1, .int (nI a)), (2, .int (nI b))] := hl
  refine lv_aload_n hx hb d_S_meets_0 rfl (lv_at hl 0 rfl) ?_
  refine lv_iload_n hx hb d_S_meets_1 rfl (lv_at hl 1 rfl) ?_
  refine lv_iload_n hx hb d_S_meets_2 rfl (lv_at hl 2 rfl) ?_
  refine fn_V (ws' := (setsW hs hw cL w)) (w1 := (setsW hs hw cL w)) (wc := (setsW hs hw cL w)) (wr := []) ⟨hx, hb, hml, hown, hts⟩ (c_S_isWithout l D hs hw cL w a b (by omega) (by omega)) ⟨callB_of 2 hts (gW wd_110) rfl rfl rfl (hts _ wd_3) (hts _ wd_107) hd_S_isWithout ⟨Nat.le_of_ble_eq_true rfl, Nat.le_of_ble_eq_true rfl⟩, hts _ wd_109, hts _ wd_p2⟩ XT_ok (fun _ _ _ => trivial) hK hP hD hS hA 0 1 rfl rfl rfl [0] [0, 1] [] [0, 1] rfl rfl rfl rfl rfl (by decide) rfl rfl rfl hl.1 rfl (Nat.le_of_ble_eq_true rfl) d_S_meets_3 ⟨Nat.zero_le _, Nat.zero_le _⟩ (st1 := [.int (bI (pNone w a b))]) rfl (fun H locs hP hD hS => ?_)
  refine b_if_ne (tgt := 13) hx hb d_S_meets_6 (by decide) (fun c_6 => ?_) (fun c_6 => ?_)
  · refine lv_iconst (v := nI 0) hx hb d_S_meets_13 (by decide) ?_
    exact fn_zret hx hb hr hlocks hAe hK hP hD hS (by rw [c_6]; rfl) d_S_meets_14
  · refine lv_iconst (v := nI 1) hx hb d_S_meets_9 (by decide) ?_
    refine lv_goto (tgt := 14) hx hb d_S_meets_10 (by decide) ?_
    exact fn_zret hx hb hr hlocks hAe hK hP hD hS (by rw [c_6]; rfl) d_S_meets_14
set_option maxHeartbeats 4000000 in
set_option maxRecDepth 100000 in
theorem c_S_contains (l : Launch) (D : va_G) (hs hw : Nat) (cL : ClassId) (w : Nat → Int64) (r x : Nat) (h1 : r + 1 ≤ 260) (h2 : x < 1024) : Fn l y_S_contains (wk y_S_contains b_S_contains 5 (some .boolean)) rm_S_contains D cls [(cL, .long)] [.ref hs, .int (nI r), .int (nI x)] (setsW hs hw cL w) XT (some (.int (bI (pBit w r x)))) (setsW hs hw cL w) := by
  refine Fn.of (by decide) rfl (Nat.le_of_ble_eq_true rfl) ?_
  intro p e s m below meth c A ls hx hb hml hr hts0 hown hlocks hnm hP hK hD hS hA hAe hX hl
  have hts : ∀ w ∈ lw_ok, w.before _ s = true := fun w h => hts0 w (List.mem_cons_of_mem _ h)
  have hown : s.vm.findClass R_S = some m.cls := hown
  have hP : va_P D cls (setsW hs hw cL w) s.heap := hP
  have hl : lv_has ls 5 [(0, .ref hs), (1, .int (nI r)), (2, .int (nI x))] := hl
  refine lv_aload_n hx hb d_S_contains_0 rfl (lv_at hl 0 rfl) ?_
  refine va_get (D := D) (ci := 1) (v := .ref hw) (C := R_S) (T := F_S) (N := 1) hx hb hts in_S hown hK hP 0 rfl rfl 0 (by decide) (hts _ wd_32) (fun _ h9 => h9) rfl d_S_contains_1 ?_
  refine lv_iload_n hx hb d_S_contains_4 rfl (lv_at hl 1 rfl) ?_
  refine lv_bipush (v := nI 16) hx hb d_S_contains_5 (by decide) ?_
  refine n_mul hx hb d_S_contains_7 ?_
  refine lv_iload_n hx hb d_S_contains_8 rfl (lv_at hl 2 rfl) ?_
  refine lv_bipush (v := nI 64) hx hb d_S_contains_9 (by decide) ?_
  refine n_div hx hb (by omega) (by omega) (by omega) d_S_contains_11 ?_
  refine n_add hx hb d_S_contains_12 ?_
  refine n_lald hx hb hK hP 1 0 rfl rfl (i := (r * 16) + (x / 64)) (by omega) (by omega) d_S_contains_13 ?_
  refine lv_lstore_n (lv' := [(3, .long (w ((r * 16) + (x / 64)))), (0, .ref hs), (1, .int (nI r)), (2, .int (nI x))]) hx hb d_S_contains_14 rfl hl (by decide) rfl (fun ls hl => ?_)
  refine lv_lload_n hx hb d_S_contains_15 rfl (lv_at hl 0 rfl) ?_
  refine lv_iload_n hx hb d_S_contains_16 rfl (lv_at hl 3 rfl) ?_
  refine lv_bipush (v := nI 64) hx hb d_S_contains_17 (by decide) ?_
  refine n_rem hx hb (by omega) (by omega) (by omega) d_S_contains_19 ?_
  refine lv_lushr hx hb d_S_contains_20 rfl ?_
  refine lv_lconst (v := 1) hx hb d_S_contains_21 (by decide) ?_
  refine lv_land hx hb d_S_contains_22 ?_
  refine lv_lconst (v := 1) hx hb d_S_contains_23 (by decide) ?_
  refine W.lcmp hx hb d_S_contains_24 ?_
  refine l_if_ne (tgt := 32) hx hb d_S_contains_25 (by decide) (fun c_25 => ?_) (fun c_25 => ?_)
  · refine lv_iconst (v := nI 0) hx hb d_S_contains_32 (by decide) ?_
    exact fn_zret hx hb hr hlocks hAe hK hP hD hS (by rw [pBit_no (by omega) c_25]; rfl) d_S_contains_33
  · refine lv_iconst (v := nI 1) hx hb d_S_contains_28 (by decide) ?_
    refine lv_goto (tgt := 33) hx hb d_S_contains_29 (by decide) ?_
    exact fn_zret hx hb hr hlocks hAe hK hP hD hS (by rw [pBit_yes (by omega) c_25]; rfl) d_S_contains_33
set_option maxHeartbeats 4000000 in
set_option maxRecDepth 100000 in
theorem c_S_lowestOne (l : Launch) (D : va_G) (x : Int64) : Fn l y_S_lowestOne (wk y_S_lowestOne b_S_lowestOne 3 (some .int)) rm_S_lowestOne D cls [] [.long x] (nilW) XT (some (.int (nI (lowB x 63 0)))) (nilW) := by
  refine Fn.of (by decide) rfl (Nat.le_of_ble_eq_true rfl) ?_
  intro p e s m below meth c A ls hx hb hml hr hts0 hown hlocks hnm hP hK hD hS hA hAe hX hl
  have hts : ∀ w ∈ lw_ok, w.before _ s = true := fun w h => hts0 w (List.mem_cons_of_mem _ h)
  have hown : s.vm.findClass R_S = some m.cls := hown
  have hP : va_P D cls (nilW) s.heap := hP
  have hl : lv_has ls 3 [(0, .long x)] := hl
  refine lv_iconst (v := nI 0) hx hb d_S_lowestOne_0 (by decide) ?_
  refine lv_istore_n (lv' := [(2, .int (nI 0)), (0, .long x)]) hx hb d_S_lowestOne_1 rfl hl (by decide) rfl (fun ls hl => ?_)
  refine w_loop 2 [] (63) (fun i H locs ls => va_P D cls (nilW) H ∧ va_D A (nilW) ∧ va_S A s.heap H locs ∧ lv_has ls 3 [(2, .int (nI i)), (0, .long x)] ∧ lowB x 63 0 = lowB x (63 - i) i) ?_ 0 (Nat.zero_le _) _ _ ls ⟨hP, hD, hS, lv_sub hl [0, 1] rfl, rfl⟩
  intro i hi ih H locs ls ⟨hP, hD, hS, hl, hJ⟩
  refine lv_iload_n hx hb d_S_lowestOne_2 rfl (lv_at hl 0 rfl) ?_
  refine lv_bipush (v := nI 63) hx hb d_S_lowestOne_3 (by decide) ?_
  refine z_icmp_ge (tgt := 24) hx hb (nI_toInt (by omega)) (nI_toInt (by omega)) d_S_lowestOne_5 (by decide) (fun c_5 => ?_) (fun c_5 => ?_)
  · refine lv_iload_n hx hb d_S_lowestOne_24 rfl (lv_at hl 0 rfl) ?_
    exact fn_iret hx hb hr hlocks hAe hK hP hD hS (by rw [hJ, lowB_end (by omega)]) d_S_lowestOne_25
  · refine lv_lload_n hx hb d_S_lowestOne_8 rfl (lv_at hl 1 rfl) ?_
    refine lv_iload_n hx hb d_S_lowestOne_9 rfl (lv_at hl 0 rfl) ?_
    refine lv_lushr hx hb d_S_lowestOne_10 rfl ?_
    refine lv_lconst (v := 1) hx hb d_S_lowestOne_11 (by decide) ?_
    refine lv_land hx hb d_S_lowestOne_12 ?_
    refine lv_lconst (v := 0) hx hb d_S_lowestOne_13 (by decide) ?_
    refine W.lcmp hx hb d_S_lowestOne_14 ?_
    refine l_if_ne (tgt := 24) hx hb d_S_lowestOne_15 (by decide) (fun c_15 => ?_) (fun c_15 => ?_)
    · refine lv_iload_n hx hb d_S_lowestOne_24 rfl (lv_at hl 0 rfl) ?_
      exact fn_iret hx hb hr hlocks hAe hK hP hD hS (by rw [hJ, lowB_hit (by omega) c_15]) d_S_lowestOne_25
    · refine lv_iinc (v := nI (i + 1)) (lv' := [(2, .int (nI (i + 1))), (0, .long x)]) hx hb d_S_lowestOne_18 hl (k := 0) rfl (by rw [← nI_1]; rfl) (by decide) rfl (fun ls hl => ?_)
      refine lv_goto (tgt := 2) hx hb d_S_lowestOne_21 (by decide) ?_
      exact ih _ _ _ (by omega) ⟨hP, hD, hS, lv_sub hl [0, 1] rfl, by rw [hJ, lowB_go (by omega) c_15]⟩
set_option maxHeartbeats 4000000 in
set_option maxRecDepth 100000 in
theorem c_S_lowest (l : Launch) (D : va_G) (hs hw : Nat) (cL : ClassId) (w : Nat → Int64) (r : Nat) (h1 : r + 1 ≤ 260) : Fn l y_S_lowest (wk y_S_lowest b_S_lowest 5 (some .int)) rm_S_lowest D cls [(cL, .long)] [.ref hs, .int (nI r)] (setsW hs hw cL w) XT (some (.int (nI (pLow w r)))) (setsW hs hw cL w) := by
  refine Fn.of (by decide) rfl (Nat.le_of_ble_eq_true rfl) ?_
  intro p e s m below meth c A ls hx hb hml hr hts0 hown hlocks hnm hP hK hD hS hA hAe hX hl
  have hts : ∀ w ∈ lw_ok, w.before _ s = true := fun w h => hts0 w (List.mem_cons_of_mem _ h)
  have hown : s.vm.findClass R_S = some m.cls := hown
  have hP : va_P D cls (setsW hs hw cL w) s.heap := hP
  have hl : lv_has ls 5 [(0, .ref hs), (1, .int (nI r))] := hl
  refine lv_iconst (v := nI 0) hx hb d_S_lowest_0 (by decide) ?_
  refine lv_istore_n (lv' := [(2, .int (nI 0)), (0, .ref hs), (1, .int (nI r))]) hx hb d_S_lowest_1 rfl hl (by decide) rfl (fun ls hl => ?_)
  refine w_loop 2 [] (16) (fun i H locs ls => va_P D cls (setsW hs hw cL w) H ∧ va_D A (setsW hs hw cL w) ∧ va_S A s.heap H locs ∧ lv_has ls 5 [(2, .int (nI i)), (0, .ref hs), (1, .int (nI r))] ∧ pLow w r = lowW w r (16 - i) i) ?_ 0 (Nat.zero_le _) _ _ ls ⟨hP, hD, hS, lv_sub hl [0, 1, 2] rfl, rfl⟩
  intro i hi ih H locs ls ⟨hP, hD, hS, hl, hJ⟩
  refine lv_iload_n hx hb d_S_lowest_2 rfl (lv_at hl 0 rfl) ?_
  refine lv_bipush (v := nI 16) hx hb d_S_lowest_3 (by decide) ?_
  refine z_icmp_ge (tgt := 42) hx hb (nI_toInt (by omega)) (nI_toInt (by omega)) d_S_lowest_5 (by decide) (fun c_5 => ?_) (fun c_5 => ?_)
  · refine lv_iconst (v := nI 0) hx hb d_S_lowest_42 (by decide) ?_
    exact fn_iret hx hb hr hlocks hAe hK hP hD hS (by rw [hJ, lowW_end (by omega)]) d_S_lowest_43
  · refine lv_aload_n hx hb d_S_lowest_8 rfl (lv_at hl 1 rfl) ?_
    refine va_get (D := D) (ci := 1) (v := .ref hw) (C := R_S) (T := F_S) (N := 1) hx hb hts in_S hown hK hP 0 rfl rfl 0 (by decide) (hts _ wd_32) (fun _ h9 => h9) rfl d_S_lowest_9 ?_
    refine lv_iload_n hx hb d_S_lowest_12 rfl (lv_at hl 2 rfl) ?_
    refine lv_bipush (v := nI 16) hx hb d_S_lowest_13 (by decide) ?_
    refine n_mul hx hb d_S_lowest_15 ?_
    refine lv_iload_n hx hb d_S_lowest_16 rfl (lv_at hl 0 rfl) ?_
    refine n_add hx hb d_S_lowest_17 ?_
    refine n_lald hx hb hK hP 1 0 rfl rfl (i := (r * 16) + i) (by omega) (by omega) d_S_lowest_18 ?_
    refine lv_lstore_n (lv' := [(3, .long (w ((r * 16) + i))), (2, .int (nI i)), (0, .ref hs), (1, .int (nI r))]) hx hb d_S_lowest_19 rfl hl (by decide) rfl (fun ls hl => ?_)
    refine lv_lload_n hx hb d_S_lowest_20 rfl (lv_at hl 0 rfl) ?_
    refine lv_lconst (v := 0) hx hb d_S_lowest_21 (by decide) ?_
    refine W.lcmp hx hb d_S_lowest_22 ?_
    refine l_if_eq (tgt := 36) hx hb d_S_lowest_23 (by decide) (fun c_23 => ?_) (fun c_23 => ?_)
    · refine lv_iinc (v := nI (i + 1)) (lv' := [(2, .int (nI (i + 1))), (3, .long (w ((r * 16) + i))), (0, .ref hs), (1, .int (nI r))]) hx hb d_S_lowest_36 hl (k := 1) rfl (by rw [← nI_1]; rfl) (by decide) rfl (fun ls hl => ?_)
      refine lv_goto (tgt := 2) hx hb d_S_lowest_39 (by decide) ?_
      exact ih _ _ _ (by omega) ⟨hP, hD, hS, lv_sub hl [0, 2, 3] rfl, by rw [hJ, lowW_go (by omega) c_23]⟩
    · refine lv_iload_n hx hb d_S_lowest_26 rfl (lv_at hl 1 rfl) ?_
      refine lv_bipush (v := nI 64) hx hb d_S_lowest_27 (by decide) ?_
      refine n_mul hx hb d_S_lowest_29 ?_
      refine lv_lload_n hx hb d_S_lowest_30 rfl (lv_at hl 0 rfl) ?_
      refine fn_S (ws' := (setsW hs hw cL w)) (w1 := (nilW)) (wc := (nilW)) (wr := [(hs, .inr (1, [.ref hw])), (hw, .inl (cL, 4160, .inr (.inl w)))]) ⟨hx, hb, hml, hown, hts⟩ (c_S_lowestOne l D (w ((r * 16) + i))) ⟨callB_of 1 hts (gW wd_445) rfl rfl rfl (hts _ wd_3) (hts _ wd_443) hd_S_lowestOne ⟨Nat.le_of_ble_eq_true rfl, Nat.le_of_ble_eq_true rfl⟩, hts _ wd_444⟩ XT_ok (fun _ _ _ => trivial) hK hP hD hS hA [] [] [0, 1] [0, 1] rfl rfl rfl rfl rfl (by decide) rfl rfl rfl hl.1 rfl (Nat.le_of_ble_eq_true rfl) d_S_lowest_31 ⟨Nat.zero_le _, Nat.zero_le _⟩ (st1 := [.int (nI (lowB (w ((r * 16) + i)) 63 0)), .int (nI (i * 64))]) rfl (fun H locs hP hD hS => ?_)
      refine n_add hx hb d_S_lowest_34 ?_
      exact fn_iret hx hb hr hlocks hAe hK hP hD hS (by rw [hJ, lowW_hit (by omega) c_23]) d_S_lowest_35
