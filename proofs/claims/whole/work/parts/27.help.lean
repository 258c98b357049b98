abbrev rh_variable : Room := { frames := 7, cells := 1, slots := 6, locals := 102 }
abbrev rh_term : Room := { frames := 7, cells := 1, slots := 6, locals := 124 }
abbrev rh_formula : Room := { frames := 7, cells := 1, slots := 6, locals := 127 }
abbrev rh_assertion : Room := { frames := 7, cells := 1, slots := 6, locals := 102 }
abbrev rh_push : Room := { frames := 7, cells := 1, slots := 6, locals := 101 }
abbrev rh_pop : Room := { frames := 7, cells := 1, slots := 6, locals := 102 }
abbrev rh_value : Room := { frames := 7, cells := 1, slots := 6, locals := 103 }
abbrev rh_valueOf : Room := { frames := 7, cells := 1, slots := 6, locals := 105 }
abbrev rh_entailed : Room := { frames := 7, cells := 1, slots := 6, locals := 102 }
abbrev rh_fixed : Room := { frames := 7, cells := 1, slots := 6, locals := 104 }
abbrev rh_least : Room := { frames := 7, cells := 1, slots := 6, locals := 104 }
abbrev rh_assume : Room := { frames := 7, cells := 1, slots := 6, locals := 102 }
abbrev rh_blame : Room := { frames := 7, cells := 1, slots := 6, locals := 104 }
abbrev rh_count : Room := { frames := 7, cells := 1, slots := 6, locals := 102 }
set_option maxHeartbeats 4000000 in
set_option maxRecDepth 100000 in
theorem h_variable_0 (l : Launch) (D : va_G) (hst : l.stackTraces = false) (n0 t0 : Nat) (ad : Nat → Nat) (cL cI : ClassId) (nv nb nt nf na lv nm : Nat) (vw vp tw ab am : Nat → Nat) (w : Nat → Int64)  (o : Nat) (fo : Nat → Int64) (hok : Bok nv nb nt nf na lv nm vw vp tw ab am) (u : ∀ i, i < 9 → n0 ≤ ad i) (uo : n0 ≤ o) (wd : Nat) (h1 : 1 ≤ wd) (h4 : wd ≤ 4) (hn : nv < 6) (hbt : nb + wd ≤ 10) : Fh l y_L_variable (wkW y_L_variable b_L_variable 4 (some .int) [(0, 9, 12, 13), (0, 9, 15, 15)]) rh_variable D cls [(cL, .long), (cI, .int)] [.ref (ad 0), .int (nI wd), .ref o] (hW ad cL cI nv nb nt nf na lv nm vw vp tw ab am w o fo) (Xh n0 t0) (some (.int (nI 0))) (hW ad cL cI (nv + 1) (nb + wd) nt nf na lv nm (updN vw nv wd) (updN vp nv (10 - (nb + wd))) tw ab am w o (vp_updL fo 0 (nI nv).toInt64)) := by
  refine Fh.of (by decide) rfl (Nat.le_of_ble_eq_true rfl) ?_
  intro p e s m below meth c A ls hx hb hml hr hts0 hown hlocks hT hP hK hD hS hA hAe hX hl
  have hts : ∀ w ∈ lw_ok, w.before _ s = true := fun w h => hts0 w (List.mem_cons_of_mem _ h)
  have hown : s.vm.findClass R_L = some m.cls := hown
  have hP : va_P D cls (hW ad cL cI nv nb nt nf na lv nm vw vp tw ab am w o fo) s.heap := hP
  have hl : lv_has ls 4 [(0, .ref (ad 0)), (1, .int (nI wd)), (2, .ref o)] := hl
  have hAn : ∀ q, A q → n0 ≤ q := fun q h => by rw [hAe] at h; exact Xh_A hX u uo h
  refine lv_aload_n hx hb d_L_variable_0 rfl (lv_at hl 2 rfl) ?_
  refine lv_iconst (v := nI 0) hx hb d_L_variable_1 (by decide) ?_
  refine lv_aload_n hx hb d_L_variable_2 rfl (lv_at hl 0 rfl) ?_
  refine lv_iload_n hx hb d_L_variable_3 rfl (lv_at hl 1 rfl) ?_
  refine fn_V (ws' := (hW ad cL cI (nv + 1) (nb + wd) nt nf na lv nm (updN vw nv wd) (updN vp nv (10 - (nb + wd))) tw ab am w o fo)) (w1 := (bsW ad cL cI (nv + 1) (nb + wd) nt nf na lv nm (updN vw nv wd) (updN vp nv (10 - (nb + wd))) tw ab am w)) (wc := (bsW ad cL cI nv nb nt nf na lv nm vw vp tw ab am w)) (wr := [(o, .inl (cL, 1, .inr (.inl fo)))]) ⟨hx, hb, hml, hown, hts⟩ (c_B_variable l D ad cL cI nv nb nt nf na lv nm vw vp tw ab am w hok wd h1 h4 hn hbt) ⟨callB_of 1 hts (gW wd_143) rfl rfl rfl (hts _ wd_1) (hts _ wd_140) hd_B_variable ⟨Nat.le_of_ble_eq_true rfl, Nat.le_of_ble_eq_true rfl⟩, hts _ wd_141, hts _ wd_142⟩ XT_ok (fun _ _ _ => trivial) hK hP hD hS hA 0 0 rfl rfl rfl [0, 1] [0, 1, 2, 3, 4, 5, 6, 7, 8] [9] [1, 2, 3, 4, 5, 6, 7, 8, 9, 0] rfl rfl rfl rfl rfl (by decide) rfl rfl rfl hl.1 rfl (Nat.le_of_ble_eq_true rfl) d_L_variable_4 ⟨Nat.zero_le _, Nat.zero_le _⟩ (st1 := [.int (nI nv), .int (nI 0), .ref o]) rfl (fun H locs hP hD hS => ?_)
  refine lv_i2l hx hb d_L_variable_7 rfl ?_
  refine n_last hx hb hK hP hD hS 9 0 rfl rfl (i := 0) (by omega) (by omega) rfl d_L_variable_8 (ws' := (hW ad cL cI (nv + 1) (nb + wd) nt nf na lv nm (updN vw nv wd) (updN vp nv (10 - (nb + wd))) tw ab am w o (vp_updL fo 0 ((nI nv).toInt64)))) rfl (fun H locs hP hD hS => ?_)
  refine lv_goto (tgt := 18) hx hb d_L_variable_9 (by decide) ?_
  refine lv_iconst (v := nI 0) hx hb d_L_variable_18 (by decide) ?_
  exact fh_iret hx hb hr hlocks hAe hK hP hD hS rfl (Nat.zero_le _) (Nat.zero_le _) d_L_variable_19
set_option maxHeartbeats 4000000 in
set_option maxRecDepth 100000 in
theorem h_variable_1 (l : Launch) (D : va_G) (hst : l.stackTraces = false) (n0 t0 : Nat) (ad : Nat → Nat) (cL cI : ClassId) (nv nb nt nf na lv nm : Nat) (vw vp tw ab am : Nat → Nat) (w : Nat → Int64)  (o : Nat) (fo : Nat → Int64) (hok : Bok nv nb nt nf na lv nm vw vp tw ab am) (u : ∀ i, i < 9 → n0 ≤ ad i) (uo : n0 ≤ o) (x : Int32) (hw : wdB x = false) : Fh l y_L_variable (wkW y_L_variable b_L_variable 4 (some .int) [(0, 9, 12, 13), (0, 9, 15, 15)]) rh_variable D cls [(cL, .long), (cI, .int)] [.ref (ad 0), .int x, .ref o] (hW ad cL cI nv nb nt nf na lv nm vw vp tw ab am w o fo) (Xh n0 t0) (some (.int (nI 1))) (hW ad cL cI nv nb nt nf na lv nm vw vp tw ab am w o fo) := by
  refine Fh.of (by decide) rfl (Nat.le_of_ble_eq_true rfl) ?_
  intro p e s m below meth c A ls hx hb hml hr hts0 hown hlocks hT hP hK hD hS hA hAe hX hl
  have hts : ∀ w ∈ lw_ok, w.before _ s = true := fun w h => hts0 w (List.mem_cons_of_mem _ h)
  have hown : s.vm.findClass R_L = some m.cls := hown
  have hP : va_P D cls (hW ad cL cI nv nb nt nf na lv nm vw vp tw ab am w o fo) s.heap := hP
  have hl : lv_has ls 4 [(0, .ref (ad 0)), (1, .int x), (2, .ref o)] := hl
  have hAn : ∀ q, A q → n0 ≤ q := fun q h => by rw [hAe] at h; exact Xh_A hX u uo h
  refine lv_aload_n hx hb d_L_variable_0 rfl (lv_at hl 2 rfl) ?_
  refine lv_iconst (v := nI 0) hx hb d_L_variable_1 (by decide) ?_
  refine lv_aload_n hx hb d_L_variable_2 rfl (lv_at hl 0 rfl) ?_
  refine lv_iload_n hx hb d_L_variable_3 rfl (lv_at hl 1 rfl) ?_
  refine ft_V (ws' := (hW ad cL cI nv nb nt nf na lv nm vw vp tw ab am w o fo)) (w1 := (bsW ad cL cI nv nb nt nf na lv nm vw vp tw ab am w)) (wc := (bsW ad cL cI nv nb nt nf na lv nm vw vp tw ab am w)) (wr := [(o, .inl (cL, 1, .inr (.inl fo)))]) ⟨hx, hb, hml, hown, hts⟩ (e_B_variable_1 l D hst n0 ad cL cI nv nb nt nf na lv nm vw vp tw ab am w hok u x hw) ⟨callB_of 1 hts (gW wd_143) rfl rfl rfl (hts _ wd_1) (hts _ wd_140) hd_B_variable ⟨Nat.le_of_ble_eq_true rfl, Nat.le_of_ble_eq_true rfl⟩, hts _ wd_141, hts _ wd_142⟩ Ze_ok (Ze_kept hX.2.1 hS hAn) hK hP hD hS hA 0 0 rfl rfl rfl [0, 1] [0, 1, 2, 3, 4, 5, 6, 7, 8] [9] [1, 2, 3, 4, 5, 6, 7, 8, 9, 0] rfl rfl rfl rfl rfl (by decide) rfl rfl rfl hl.1 rfl (Nat.le_of_ble_eq_true rfl) d_L_variable_4 ⟨Nat.le_of_ble_eq_true rfl, Nat.le_of_ble_eq_true rfl⟩ (fun xx ce H locs hP hD hS hce hcv hcl => ?_)
  refine vx_catch (own := R_L) (name := X_IAE) hown [] ⟨0, 9, 12, 13⟩ [⟨0, 9, 15, 15⟩] hT (fun _ h => absurd h List.not_mem_nil) (by decide) (by decide) (hts _ wd_138) (cast_IAE hX.2.1.2.2.2) hce hcv hcl ?_
  refine lv_astore_n (lv' := [(3, .ref xx), (0, .ref (ad 0)), (1, .int x), (2, .ref o)]) hx hb d_L_variable_12 rfl hl (by decide) rfl (fun ls hl => ?_)
  refine lv_iconst (v := nI 1) hx hb d_L_variable_13 (by decide) ?_
  exact fh_iret hx hb hr hlocks hAe hK hP hD hS rfl (Nat.le_refl _) (Nat.le_refl _) d_L_variable_14
set_option maxHeartbeats 4000000 in
set_option maxRecDepth 100000 in
theorem h_variable_2 (l : Launch) (D : va_G) (hst : l.stackTraces = false) (n0 t0 : Nat) (ad : Nat → Nat) (cL cI : ClassId) (nv nb nt nf na lv nm : Nat) (vw vp tw ab am : Nat → Nat) (w : Nat → Int64)  (o : Nat) (fo : Nat → Int64) (hok : Bok nv nb nt nf na lv nm vw vp tw ab am) (u : ∀ i, i < 9 → n0 ≤ ad i) (uo : n0 ≤ o) (wd : Nat) (h1 : 1 ≤ wd) (h4 : wd ≤ 4) (hn : 6 ≤ nv ∨ 10 < nb + wd) : Fh l y_L_variable (wkW y_L_variable b_L_variable 4 (some .int) [(0, 9, 12, 13), (0, 9, 15, 15)]) rh_variable D cls [(cL, .long), (cI, .int)] [.ref (ad 0), .int (nI wd), .ref o] (hW ad cL cI nv nb nt nf na lv nm vw vp tw ab am w o fo) (Xh n0 t0) (some (.int (nI 2))) (hW ad cL cI nv nb nt nf na lv nm vw vp tw ab am w o fo) := by
  refine Fh.of (by decide) rfl (Nat.le_of_ble_eq_true rfl) ?_
  intro p e s m below meth c A ls hx hb hml hr hts0 hown hlocks hT hP hK hD hS hA hAe hX hl
  have hts : ∀ w ∈ lw_ok, w.before _ s = true := fun w h => hts0 w (List.mem_cons_of_mem _ h)
  have hown : s.vm.findClass R_L = some m.cls := hown
  have hP : va_P D cls (hW ad cL cI nv nb nt nf na lv nm vw vp tw ab am w o fo) s.heap := hP
  have hl : lv_has ls 4 [(0, .ref (ad 0)), (1, .int (nI wd)), (2, .ref o)] := hl
  have hAn : ∀ q, A q → n0 ≤ q := fun q h => by rw [hAe] at h; exact Xh_A hX u uo h
  refine lv_aload_n hx hb d_L_variable_0 rfl (lv_at hl 2 rfl) ?_
  refine lv_iconst (v := nI 0) hx hb d_L_variable_1 (by decide) ?_
  refine lv_aload_n hx hb d_L_variable_2 rfl (lv_at hl 0 rfl) ?_
  refine lv_iload_n hx hb d_L_variable_3 rfl (lv_at hl 1 rfl) ?_
  refine ft_V (ws' := (hW ad cL cI nv nb nt nf na lv nm vw vp tw ab am w o fo)) (w1 := (bsW ad cL cI nv nb nt nf na lv nm vw vp tw ab am w)) (wc := (bsW ad cL cI nv nb nt nf na lv nm vw vp tw ab am w)) (wr := [(o, .inl (cL, 1, .inr (.inl fo)))]) ⟨hx, hb, hml, hown, hts⟩ (e_B_variable_2 l D hst n0 ad cL cI nv nb nt nf na lv nm vw vp tw ab am w hok u wd h1 h4 hn) ⟨callB_of 1 hts (gW wd_143) rfl rfl rfl (hts _ wd_1) (hts _ wd_140) hd_B_variable ⟨Nat.le_of_ble_eq_true rfl, Nat.le_of_ble_eq_true rfl⟩, hts _ wd_141, hts _ wd_142⟩ Ze_ok (Ze_kept hX.2.1 hS hAn) hK hP hD hS hA 0 0 rfl rfl rfl [0, 1] [0, 1, 2, 3, 4, 5, 6, 7, 8] [9] [1, 2, 3, 4, 5, 6, 7, 8, 9, 0] rfl rfl rfl rfl rfl (by decide) rfl rfl rfl hl.1 rfl (Nat.le_of_ble_eq_true rfl) d_L_variable_4 ⟨Nat.le_of_ble_eq_true rfl, Nat.le_of_ble_eq_true rfl⟩ (fun xx ce H locs hP hD hS hce hcv hcl => ?_)
  refine vx_catch (own := R_L) (name := X_ISE) hown [⟨0, 9, 12, 13⟩] ⟨0, 9, 15, 15⟩ [] hT (List.forall_mem_cons.mpr ⟨Or.inr ⟨by decide, X_IAE, hts _ wd_138, hX.2.2.1⟩, fun _ h => absurd h List.not_mem_nil⟩) (by decide) (by decide) (hts _ wd_139) (cast_ISE hX.2.1.2.2.2) hce hcv hcl ?_
  refine lv_astore_n (lv' := [(3, .ref xx), (0, .ref (ad 0)), (1, .int (nI wd)), (2, .ref o)]) hx hb d_L_variable_15 rfl hl (by decide) rfl (fun ls hl => ?_)
  refine lv_iconst (v := nI 2) hx hb d_L_variable_16 (by decide) ?_
  exact fh_iret hx hb hr hlocks hAe hK hP hD hS rfl (Nat.le_refl _) (Nat.le_refl _) d_L_variable_17
set_option maxHeartbeats 4000000 in
set_option maxRecDepth 100000 in
theorem h_term_0 (l : Launch) (D : va_G) (hst : l.stackTraces = false) (n0 t0 : Nat) (ad : Nat → Nat) (cL cI : ClassId) (nv nb nt nf na lv nm : Nat) (vw vp tw ab am : Nat → Nat) (w : Nat → Int64)  (o : Nat) (fo : Nat → Int64) (hok : Bok nv nb nt nf na lv nm vw vp tw ab am) (u : ∀ i, i < 9 → n0 ≤ ad i) (uo : n0 ≤ o) (k a : Nat) (kb kc : Int32) (wd : Nat) (hk : k ≤ 14) (ha31 : a < 2 ^ 31) (h1 : 1 ≤ wd) (h4 : wd ≤ 4) (hnt : nt < 50) (hw : pW nv nt nf vw tw (nI k) (nI a) kb kc = wd) (hd : dT nv nt nf vw tw k a kb kc wd) : Fh l y_L_term (wkW y_L_term b_L_term 7 (some .int) [(0, 14, 17, 13), (0, 14, 21, 15)]) rh_term D cls [(cL, .long), (cI, .int)] [.ref (ad 0), .int (nI k), .int (nI a), .int kb, .int kc, .ref o] (hW ad cL cI nv nb nt nf na lv nm vw vp tw ab am w o fo) (Xh n0 t0) (some (.int (nI 0))) (hW ad cL cI nv nb (nt + 1) nf na lv nm vw vp (updN tw nt wd) ab am (tRes k a (nB kb) (nB kc) wd nt vw vp tw w) o (vp_updL fo 0 (nI nt).toInt64)) := by
  refine Fh.of (by decide) rfl (Nat.le_of_ble_eq_true rfl) ?_
  intro p e s m below meth c A ls hx hb hml hr hts0 hown hlocks hT hP hK hD hS hA hAe hX hl
  have hts : ∀ w ∈ lw_ok, w.before _ s = true := fun w h => hts0 w (List.mem_cons_of_mem _ h)
  have hown : s.vm.findClass R_L = some m.cls := hown
  have hP : va_P D cls (hW ad cL cI nv nb nt nf na lv nm vw vp tw ab am w o fo) s.heap := hP
  have hl : lv_has ls 7 [(0, .ref (ad 0)), (1, .int (nI k)), (2, .int (nI a)), (3, .int kb), (4, .int kc), (5, .ref o)] := hl
  have hAn : ∀ q, A q → n0 ≤ q := fun q h => by rw [hAe] at h; exact Xh_A hX u uo h
  refine lv_aload hx hb d_L_term_0 (lv_at hl 5 rfl) ?_
  refine lv_iconst (v := nI 0) hx hb d_L_term_2 (by decide) ?_
  refine lv_aload_n hx hb d_L_term_3 rfl (lv_at hl 0 rfl) ?_
  refine lv_iload_n hx hb d_L_term_4 rfl (lv_at hl 1 rfl) ?_
  refine lv_iload_n hx hb d_L_term_5 rfl (lv_at hl 2 rfl) ?_
  refine lv_iload_n hx hb d_L_term_6 rfl (lv_at hl 3 rfl) ?_
  refine lv_iload hx hb d_L_term_7 (lv_at hl 4 rfl) ?_
  refine fn_V (ws' := (hW ad cL cI nv nb (nt + 1) nf na lv nm vw vp (updN tw nt wd) ab am (tRes k a (nB kb) (nB kc) wd nt vw vp tw w) o fo)) (w1 := (bsW ad cL cI nv nb (nt + 1) nf na lv nm vw vp (updN tw nt wd) ab am (tRes k a (nB kb) (nB kc) wd nt vw vp tw w))) (wc := (bsW ad cL cI nv nb nt nf na lv nm vw vp tw ab am w)) (wr := [(o, .inl (cL, 1, .inr (.inl fo)))]) ⟨hx, hb, hml, hown, hts⟩ (c_B_termU l D ad cL cI nv nb nt nf na lv nm vw vp tw ab am w hok n0 t0 u k a kb kc wd hk ha31 h1 h4 hnt hw hd) ⟨callB_of 4 hts (gW wd_232) rfl rfl rfl (hts _ wd_1) (hts _ wd_229) hd_B_term ⟨Nat.le_of_ble_eq_true rfl, Nat.le_of_ble_eq_true rfl⟩, hts _ wd_230, hts _ wd_231⟩ Zt_ok (Zt_kept hX.1 hS hAn) hK hP hD hS hA 0 0 rfl rfl rfl [0, 1] [0, 1, 2, 3, 4, 5, 6, 7, 8] [9] [1, 2, 3, 4, 5, 6, 7, 8, 9, 0] rfl rfl rfl rfl rfl (by decide) rfl rfl rfl hl.1 rfl (Nat.le_of_ble_eq_true rfl) d_L_term_9 ⟨Nat.zero_le _, Nat.zero_le _⟩ (st1 := [.int (nI nt), .int (nI 0), .ref o]) rfl (fun H locs hP hD hS => ?_)
  refine lv_i2l hx hb d_L_term_12 rfl ?_
  refine n_last hx hb hK hP hD hS 9 0 rfl rfl (i := 0) (by omega) (by omega) rfl d_L_term_13 (ws' := (hW ad cL cI nv nb (nt + 1) nf na lv nm vw vp (updN tw nt wd) ab am (tRes k a (nB kb) (nB kc) wd nt vw vp tw w) o (vp_updL fo 0 ((nI nt).toInt64)))) rfl (fun H locs hP hD hS => ?_)
  refine lv_goto (tgt := 25) hx hb d_L_term_14 (by decide) ?_
  refine lv_iconst (v := nI 0) hx hb d_L_term_25 (by decide) ?_
  exact fh_iret hx hb hr hlocks hAe hK hP hD hS rfl (Nat.zero_le _) (Nat.zero_le _) d_L_term_26
set_option maxHeartbeats 4000000 in
set_option maxRecDepth 100000 in
theorem h_term_1 (l : Launch) (D : va_G) (hst : l.stackTraces = false) (n0 t0 : Nat) (ad : Nat → Nat) (cL cI : ClassId) (nv nb nt nf na lv nm : Nat) (vw vp tw ab am : Nat → Nat) (w : Nat → Int64)  (o : Nat) (fo : Nat → Int64) (hok : Bok nv nb nt nf na lv nm vw vp tw ab am) (u : ∀ i, i < 9 → n0 ≤ ad i) (uo : n0 ≤ o) (kd ka kb kc : Int32) (hw : pW nv nt nf vw tw kd ka kb kc = 0) : Fh l y_L_term (wkW y_L_term b_L_term 7 (some .int) [(0, 14, 17, 13), (0, 14, 21, 15)]) rh_term D cls [(cL, .long), (cI, .int)] [.ref (ad 0), .int kd, .int ka, .int kb, .int kc, .ref o] (hW ad cL cI nv nb nt nf na lv nm vw vp tw ab am w o fo) (Xh n0 t0) (some (.int (nI 1))) (hW ad cL cI nv nb nt nf na lv nm vw vp tw ab am w o fo) := by
  refine Fh.of (by decide) rfl (Nat.le_of_ble_eq_true rfl) ?_
  intro p e s m below meth c A ls hx hb hml hr hts0 hown hlocks hT hP hK hD hS hA hAe hX hl
  have hts : ∀ w ∈ lw_ok, w.before _ s = true := fun w h => hts0 w (List.mem_cons_of_mem _ h)
  have hown : s.vm.findClass R_L = some m.cls := hown
  have hP : va_P D cls (hW ad cL cI nv nb nt nf na lv nm vw vp tw ab am w o fo) s.heap := hP
  have hl : lv_has ls 7 [(0, .ref (ad 0)), (1, .int kd), (2, .int ka), (3, .int kb), (4, .int kc), (5, .ref o)] := hl
  have hAn : ∀ q, A q → n0 ≤ q := fun q h => by rw [hAe] at h; exact Xh_A hX u uo h
  refine lv_aload hx hb d_L_term_0 (lv_at hl 5 rfl) ?_
  refine lv_iconst (v := nI 0) hx hb d_L_term_2 (by decide) ?_
  refine lv_aload_n hx hb d_L_term_3 rfl (lv_at hl 0 rfl) ?_
  refine lv_iload_n hx hb d_L_term_4 rfl (lv_at hl 1 rfl) ?_
  refine lv_iload_n hx hb d_L_term_5 rfl (lv_at hl 2 rfl) ?_
  refine lv_iload_n hx hb d_L_term_6 rfl (lv_at hl 3 rfl) ?_
  refine lv_iload hx hb d_L_term_7 (lv_at hl 4 rfl) ?_
  refine ft_V (ws' := (hW ad cL cI nv nb nt nf na lv nm vw vp tw ab am w o fo)) (w1 := (bsW ad cL cI nv nb nt nf na lv nm vw vp tw ab am w)) (wc := (bsW ad cL cI nv nb nt nf na lv nm vw vp tw ab am w)) (wr := [(o, .inl (cL, 1, .inr (.inl fo)))]) ⟨hx, hb, hml, hown, hts⟩ (e_B_term_1 l D hst n0 ad cL cI nv nb nt nf na lv nm vw vp tw ab am w hok u kd ka kb kc 0 hw rfl) ⟨callB_of 4 hts (gW wd_232) rfl rfl rfl (hts _ wd_1) (hts _ wd_229) hd_B_term ⟨Nat.le_of_ble_eq_true rfl, Nat.le_of_ble_eq_true rfl⟩, hts _ wd_230, hts _ wd_231⟩ Ze_ok (Ze_kept hX.2.1 hS hAn) hK hP hD hS hA 0 0 rfl rfl rfl [0, 1] [0, 1, 2, 3, 4, 5, 6, 7, 8] [9] [1, 2, 3, 4, 5, 6, 7, 8, 9, 0] rfl rfl rfl rfl rfl (by decide) rfl rfl rfl hl.1 rfl (Nat.le_of_ble_eq_true rfl) d_L_term_9 ⟨Nat.le_of_ble_eq_true rfl, Nat.le_of_ble_eq_true rfl⟩ (fun xx ce H locs hP hD hS hce hcv hcl => ?_)
  refine vx_catch (own := R_L) (name := X_IAE) hown [] ⟨0, 14, 17, 13⟩ [⟨0, 14, 21, 15⟩] hT (fun _ h => absurd h List.not_mem_nil) (by decide) (by decide) (hts _ wd_138) (cast_IAE hX.2.1.2.2.2) hce hcv hcl ?_
  refine lv_astore (lv' := [(6, .ref xx), (0, .ref (ad 0)), (1, .int kd), (2, .int ka), (3, .int kb), (4, .int kc), (5, .ref o)]) hx hb d_L_term_17 hl (by decide) rfl (fun ls hl => ?_)
  refine lv_iconst (v := nI 1) hx hb d_L_term_19 (by decide) ?_
  exact fh_iret hx hb hr hlocks hAe hK hP hD hS rfl (Nat.le_refl _) (Nat.le_refl _) d_L_term_20
set_option maxHeartbeats 4000000 in
set_option maxRecDepth 100000 in
theorem h_term_2 (l : Launch) (D : va_G) (hst : l.stackTraces = false) (n0 t0 : Nat) (ad : Nat → Nat) (cL cI : ClassId) (nv nb nt nf na lv nm : Nat) (vw vp tw ab am : Nat → Nat) (w : Nat → Int64)  (o : Nat) (fo : Nat → Int64) (hok : Bok nv nb nt nf na lv nm vw vp tw ab am) (u : ∀ i, i < 9 → n0 ≤ ad i) (uo : n0 ≤ o) (kd ka kb kc : Int32) (wd : Nat) (hw : pW nv nt nf vw tw kd ka kb kc = wd) (h1 : 1 ≤ wd) (h4 : wd ≤ 4) (hnt : 50 ≤ nt) : Fh l y_L_term (wkW y_L_term b_L_term 7 (some .int) [(0, 14, 17, 13), (0, 14, 21, 15)]) rh_term D cls [(cL, .long), (cI, .int)] [.ref (ad 0), .int kd, .int ka, .int kb, .int kc, .ref o] (hW ad cL cI nv nb nt nf na lv nm vw vp tw ab am w o fo) (Xh n0 t0) (some (.int (nI 2))) (hW ad cL cI nv nb nt nf na lv nm vw vp tw ab am w o fo) := by
  refine Fh.of (by decide) rfl (Nat.le_of_ble_eq_true rfl) ?_
  intro p e s m below meth c A ls hx hb hml hr hts0 hown hlocks hT hP hK hD hS hA hAe hX hl
  have hts : ∀ w ∈ lw_ok, w.before _ s = true := fun w h => hts0 w (List.mem_cons_of_mem _ h)
  have hown : s.vm.findClass R_L = some m.cls := hown
  have hP : va_P D cls (hW ad cL cI nv nb nt nf na lv nm vw vp tw ab am w o fo) s.heap := hP
  have hl : lv_has ls 7 [(0, .ref (ad 0)), (1, .int kd), (2, .int ka), (3, .int kb), (4, .int kc), (5, .ref o)] := hl
  have hAn : ∀ q, A q → n0 ≤ q := fun q h => by rw [hAe] at h; exact Xh_A hX u uo h
  refine lv_aload hx hb d_L_term_0 (lv_at hl 5 rfl) ?_
  refine lv_iconst (v := nI 0) hx hb d_L_term_2 (by decide) ?_
  refine lv_aload_n hx hb d_L_term_3 rfl (lv_at hl 0 rfl) ?_
  refine lv_iload_n hx hb d_L_term_4 rfl (lv_at hl 1 rfl) ?_
  refine lv_iload_n hx hb d_L_term_5 rfl (lv_at hl 2 rfl) ?_
  refine lv_iload_n hx hb d_L_term_6 rfl (lv_at hl 3 rfl) ?_
  refine lv_iload hx hb d_L_term_7 (lv_at hl 4 rfl) ?_
  refine ft_V (ws' := (hW ad cL cI nv nb nt nf na lv nm vw vp tw ab am w o fo)) (w1 := (bsW ad cL cI nv nb nt nf na lv nm vw vp tw ab am w)) (wc := (bsW ad cL cI nv nb nt nf na lv nm vw vp tw ab am w)) (wr := [(o, .inl (cL, 1, .inr (.inl fo)))]) ⟨hx, hb, hml, hown, hts⟩ (e_B_term_2 l D hst n0 ad cL cI nv nb nt nf na lv nm vw vp tw ab am w hok u kd ka kb kc wd hw h1 h4 hnt) ⟨callB_of 4 hts (gW wd_232) rfl rfl rfl (hts _ wd_1) (hts _ wd_229) hd_B_term ⟨Nat.le_of_ble_eq_true rfl, Nat.le_of_ble_eq_true rfl⟩, hts _ wd_230, hts _ wd_231⟩ Ze_ok (Ze_kept hX.2.1 hS hAn) hK hP hD hS hA 0 0 rfl rfl rfl [0, 1] [0, 1, 2, 3, 4, 5, 6, 7, 8] [9] [1, 2, 3, 4, 5, 6, 7, 8, 9, 0] rfl rfl rfl rfl rfl (by decide) rfl rfl rfl hl.1 rfl (Nat.le_of_ble_eq_true rfl) d_L_term_9 ⟨Nat.le_of_ble_eq_true rfl, Nat.le_of_ble_eq_true rfl⟩ (fun xx ce H locs hP hD hS hce hcv hcl => ?_)
  refine vx_catch (own := R_L) (name := X_ISE) hown [⟨0, 14, 17, 13⟩] ⟨0, 14, 21, 15⟩ [] hT (List.forall_mem_cons.mpr ⟨Or.inr ⟨by decide, X_IAE, hts _ wd_138, hX.2.2.1⟩, fun _ h => absurd h List.not_mem_nil⟩) (by decide) (by decide) (hts _ wd_139) (cast_ISE hX.2.1.2.2.2) hce hcv hcl ?_
  refine lv_astore (lv' := [(6, .ref xx), (0, .ref (ad 0)), (1, .int kd), (2, .int ka), (3, .int kb), (4, .int kc), (5, .ref o)]) hx hb d_L_term_21 hl (by decide) rfl (fun ls hl => ?_)
  refine lv_iconst (v := nI 2) hx hb d_L_term_23 (by decide) ?_
  exact fh_iret hx hb hr hlocks hAe hK hP hD hS rfl (Nat.le_refl _) (Nat.le_refl _) d_L_term_24
set_option maxHeartbeats 4000000 in
set_option maxRecDepth 100000 in
theorem h_formula_0 (l : Launch) (D : va_G) (hst : l.stackTraces = false) (n0 t0 : Nat) (ad : Nat → Nat) (cL cI : ClassId) (nv nb nt nf na lv nm : Nat) (vw vp tw ab am : Nat → Nat) (w : Nat → Int64)  (o : Nat) (fo : Nat → Int64) (hok : Bok nv nb nt nf na lv nm vw vp tw ab am) (u : ∀ i, i < 9 → n0 ≤ ad i) (uo : n0 ≤ o) (k a : Nat) (kb : Int32) (hk : k ≤ 10) (hnf : nf < 50) (hf : pF nt nf tw (nI k) (nI a) kb = true) (hd : dF nt nf tw k a kb) : Fh l y_L_formula (wkW y_L_formula b_L_formula 6 (some .int) [(0, 12, 15, 13), (0, 12, 19, 15)]) rh_formula D cls [(cL, .long), (cI, .int)] [.ref (ad 0), .int (nI k), .int (nI a), .int kb, .ref o] (hW ad cL cI nv nb nt nf na lv nm vw vp tw ab am w o fo) (Xh n0 t0) (some (.int (nI 0))) (hW ad cL cI nv nb nt (nf + 1) na lv nm vw vp tw ab am (fRes k a (nB kb) nf tw w) o (vp_updL fo 0 (nI nf).toInt64)) := by
  refine Fh.of (by decide) rfl (Nat.le_of_ble_eq_true rfl) ?_
  intro p e s m below meth c A ls hx hb hml hr hts0 hown hlocks hT hP hK hD hS hA hAe hX hl
  have hts : ∀ w ∈ lw_ok, w.before _ s = true := fun w h => hts0 w (List.mem_cons_of_mem _ h)
  have hown : s.vm.findClass R_L = some m.cls := hown
  have hP : va_P D cls (hW ad cL cI nv nb nt nf na lv nm vw vp tw ab am w o fo) s.heap := hP
  have hl : lv_has ls 6 [(0, .ref (ad 0)), (1, .int (nI k)), (2, .int (nI a)), (3, .int kb), (4, .ref o)] := hl
  have hAn : ∀ q, A q → n0 ≤ q := fun q h => by rw [hAe] at h; exact Xh_A hX u uo h
  refine lv_aload hx hb d_L_formula_0 (lv_at hl 4 rfl) ?_
  refine lv_iconst (v := nI 0) hx hb d_L_formula_2 (by decide) ?_
  refine lv_aload_n hx hb d_L_formula_3 rfl (lv_at hl 0 rfl) ?_
  refine lv_iload_n hx hb d_L_formula_4 rfl (lv_at hl 1 rfl) ?_
  refine lv_iload_n hx hb d_L_formula_5 rfl (lv_at hl 2 rfl) ?_
  refine lv_iload_n hx hb d_L_formula_6 rfl (lv_at hl 3 rfl) ?_
  refine fn_V (ws' := (hW ad cL cI nv nb nt (nf + 1) na lv nm vw vp tw ab am (fRes k a (nB kb) nf tw w) o fo)) (w1 := (bsW ad cL cI nv nb nt (nf + 1) na lv nm vw vp tw ab am (fRes k a (nB kb) nf tw w))) (wc := (bsW ad cL cI nv nb nt nf na lv nm vw vp tw ab am w)) (wr := [(o, .inl (cL, 1, .inr (.inl fo)))]) ⟨hx, hb, hml, hown, hts⟩ (c_B_formulaU l D ad cL cI nv nb nt nf na lv nm vw vp tw ab am w hok k a kb hk hnf hf hd) ⟨callB_of 3 hts (gW wd_349) rfl rfl rfl (hts _ wd_1) (hts _ wd_346) hd_B_formula ⟨Nat.le_of_ble_eq_true rfl, Nat.le_of_ble_eq_true rfl⟩, hts _ wd_347, hts _ wd_348⟩ XT_ok (fun _ _ _ => trivial) hK hP hD hS hA 0 0 rfl rfl rfl [0, 1] [0, 1, 2, 3, 4, 5, 6, 7, 8] [9] [1, 2, 3, 4, 5, 6, 7, 8, 9, 0] rfl rfl rfl rfl rfl (by decide) rfl rfl rfl hl.1 rfl (Nat.le_of_ble_eq_true rfl) d_L_formula_7 ⟨Nat.zero_le _, Nat.zero_le _⟩ (st1 := [.int (nI nf), .int (nI 0), .ref o]) rfl (fun H locs hP hD hS => ?_)
  refine lv_i2l hx hb d_L_formula_10 rfl ?_
  refine n_last hx hb hK hP hD hS 9 0 rfl rfl (i := 0) (by omega) (by omega) rfl d_L_formula_11 (ws' := (hW ad cL cI nv nb nt (nf + 1) na lv nm vw vp tw ab am (fRes k a (nB kb) nf tw w) o (vp_updL fo 0 ((nI nf).toInt64)))) rfl (fun H locs hP hD hS => ?_)
  refine lv_goto (tgt := 23) hx hb d_L_formula_12 (by decide) ?_
  refine lv_iconst (v := nI 0) hx hb d_L_formula_23 (by decide) ?_
  exact fh_iret hx hb hr hlocks hAe hK hP hD hS rfl (Nat.zero_le _) (Nat.zero_le _) d_L_formula_24
set_option maxHeartbeats 4000000 in
set_option maxRecDepth 100000 in
theorem h_formula_1 (l : Launch) (D : va_G) (hst : l.stackTraces = false) (n0 t0 : Nat) (ad : Nat → Nat) (cL cI : ClassId) (nv nb nt nf na lv nm : Nat) (vw vp tw ab am : Nat → Nat) (w : Nat → Int64)  (o : Nat) (fo : Nat → Int64) (hok : Bok nv nb nt nf na lv nm vw vp tw ab am) (u : ∀ i, i < 9 → n0 ≤ ad i) (uo : n0 ≤ o) (kd ka kb : Int32) (hf : pF nt nf tw kd ka kb = false) : Fh l y_L_formula (wkW y_L_formula b_L_formula 6 (some .int) [(0, 12, 15, 13), (0, 12, 19, 15)]) rh_formula D cls [(cL, .long), (cI, .int)] [.ref (ad 0), .int kd, .int ka, .int kb, .ref o] (hW ad cL cI nv nb nt nf na lv nm vw vp tw ab am w o fo) (Xh n0 t0) (some (.int (nI 1))) (hW ad cL cI nv nb nt nf na lv nm vw vp tw ab am w o fo) := by
  refine Fh.of (by decide) rfl (Nat.le_of_ble_eq_true rfl) ?_
  intro p e s m below meth c A ls hx hb hml hr hts0 hown hlocks hT hP hK hD hS hA hAe hX hl
  have hts : ∀ w ∈ lw_ok, w.before _ s = true := fun w h => hts0 w (List.mem_cons_of_mem _ h)
  have hown : s.vm.findClass R_L = some m.cls := hown
  have hP : va_P D cls (hW ad cL cI nv nb nt nf na lv nm vw vp tw ab am w o fo) s.heap := hP
  have hl : lv_has ls 6 [(0, .ref (ad 0)), (1, .int kd), (2, .int ka), (3, .int kb), (4, .ref o)] := hl
  have hAn : ∀ q, A q → n0 ≤ q := fun q h => by rw [hAe] at h; exact Xh_A hX u uo h
  refine lv_aload hx hb d_L_formula_0 (lv_at hl 4 rfl) ?_
  refine lv_iconst (v := nI 0) hx hb d_L_formula_2 (by decide) ?_
  refine lv_aload_n hx hb d_L_formula_3 rfl (lv_at hl 0 rfl) ?_
  refine lv_iload_n hx hb d_L_formula_4 rfl (lv_at hl 1 rfl) ?_
  refine lv_iload_n hx hb d_L_formula_5 rfl (lv_at hl 2 rfl) ?_
  refine lv_iload_n hx hb d_L_formula_6 rfl (lv_at hl 3 rfl) ?_
  refine ft_V (ws' := (hW ad cL cI nv nb nt nf na lv nm vw vp tw ab am w o fo)) (w1 := (bsW ad cL cI nv nb nt nf na lv nm vw vp tw ab am w)) (wc := (bsW ad cL cI nv nb nt nf na lv nm vw vp tw ab am w)) (wr := [(o, .inl (cL, 1, .inr (.inl fo)))]) ⟨hx, hb, hml, hown, hts⟩ (e_B_formula_1 l D hst n0 ad cL cI nv nb nt nf na lv nm vw vp tw ab am w hok u kd ka kb hf) ⟨callB_of 3 hts (gW wd_349) rfl rfl rfl (hts _ wd_1) (hts _ wd_346) hd_B_formula ⟨Nat.le_of_ble_eq_true rfl, Nat.le_of_ble_eq_true rfl⟩, hts _ wd_347, hts _ wd_348⟩ Ze_ok (Ze_kept hX.2.1 hS hAn) hK hP hD hS hA 0 0 rfl rfl rfl [0, 1] [0, 1, 2, 3, 4, 5, 6, 7, 8] [9] [1, 2, 3, 4, 5, 6, 7, 8, 9, 0] rfl rfl rfl rfl rfl (by decide) rfl rfl rfl hl.1 rfl (Nat.le_of_ble_eq_true rfl) d_L_formula_7 ⟨Nat.le_of_ble_eq_true rfl, Nat.le_of_ble_eq_true rfl⟩ (fun xx ce H locs hP hD hS hce hcv hcl => ?_)
  refine vx_catch (own := R_L) (name := X_IAE) hown [] ⟨0, 12, 15, 13⟩ [⟨0, 12, 19, 15⟩] hT (fun _ h => absurd h List.not_mem_nil) (by decide) (by decide) (hts _ wd_138) (cast_IAE hX.2.1.2.2.2) hce hcv hcl ?_
  refine lv_astore (lv' := [(5, .ref xx), (0, .ref (ad 0)), (1, .int kd), (2, .int ka), (3, .int kb), (4, .ref o)]) hx hb d_L_formula_15 hl (by decide) rfl (fun ls hl => ?_)
  refine lv_iconst (v := nI 1) hx hb d_L_formula_17 (by decide) ?_
  exact fh_iret hx hb hr hlocks hAe hK hP hD hS rfl (Nat.le_refl _) (Nat.le_refl _) d_L_formula_18
set_option maxHeartbeats 4000000 in
set_option maxRecDepth 100000 in
theorem h_formula_2 (l : Launch) (D : va_G) (hst : l.stackTraces = false) (n0 t0 : Nat) (ad : Nat → Nat) (cL cI : ClassId) (nv nb nt nf na lv nm : Nat) (vw vp tw ab am : Nat → Nat) (w : Nat → Int64)  (o : Nat) (fo : Nat → Int64) (hok : Bok nv nb nt nf na lv nm vw vp tw ab am) (u : ∀ i, i < 9 → n0 ≤ ad i) (uo : n0 ≤ o) (kd ka kb : Int32) (hf : pF nt nf tw kd ka kb = true) (hn : 50 ≤ nf) : Fh l y_L_formula (wkW y_L_formula b_L_formula 6 (some .int) [(0, 12, 15, 13), (0, 12, 19, 15)]) rh_formula D cls [(cL, .long), (cI, .int)] [.ref (ad 0), .int kd, .int ka, .int kb, .ref o] (hW ad cL cI nv nb nt nf na lv nm vw vp tw ab am w o fo) (Xh n0 t0) (some (.int (nI 2))) (hW ad cL cI nv nb nt nf na lv nm vw vp tw ab am w o fo) := by
  refine Fh.of (by decide) rfl (Nat.le_of_ble_eq_true rfl) ?_
  intro p e s m below meth c A ls hx hb hml hr hts0 hown hlocks hT hP hK hD hS hA hAe hX hl
  have hts : ∀ w ∈ lw_ok, w.before _ s = true := fun w h => hts0 w (List.mem_cons_of_mem _ h)
  have hown : s.vm.findClass R_L = some m.cls := hown
  have hP : va_P D cls (hW ad cL cI nv nb nt nf na lv nm vw vp tw ab am w o fo) s.heap := hP
  have hl : lv_has ls 6 [(0, .ref (ad 0)), (1, .int kd), (2, .int ka), (3, .int kb), (4, .ref o)] := hl
  have hAn : ∀ q, A q → n0 ≤ q := fun q h => by rw [hAe] at h; exact Xh_A hX u uo h
  refine lv_aload hx hb d_L_formula_0 (lv_at hl 4 rfl) ?_
  refine lv_iconst (v := nI 0) hx hb d_L_formula_2 (by decide) ?_
  refine lv_aload_n hx hb d_L_formula_3 rfl (lv_at hl 0 rfl) ?_
  refine lv_iload_n hx hb d_L_formula_4 rfl (lv_at hl 1 rfl) ?_
  refine lv_iload_n hx hb d_L_formula_5 rfl (lv_at hl 2 rfl) ?_
  refine lv_iload_n hx hb d_L_formula_6 rfl (lv_at hl 3 rfl) ?_
  refine ft_V (ws' := (hW ad cL cI nv nb nt nf na lv nm vw vp tw ab am w o fo)) (w1 := (bsW ad cL cI nv nb nt nf na lv nm vw vp tw ab am w)) (wc := (bsW ad cL cI nv nb nt nf na lv nm vw vp tw ab am w)) (wr := [(o, .inl (cL, 1, .inr (.inl fo)))]) ⟨hx, hb, hml, hown, hts⟩ (e_B_formula_2 l D hst n0 ad cL cI nv nb nt nf na lv nm vw vp tw ab am w hok u kd ka kb hf hn) ⟨callB_of 3 hts (gW wd_349) rfl rfl rfl (hts _ wd_1) (hts _ wd_346) hd_B_formula ⟨Nat.le_of_ble_eq_true rfl, Nat.le_of_ble_eq_true rfl⟩, hts _ wd_347, hts _ wd_348⟩ Ze_ok (Ze_kept hX.2.1 hS hAn) hK hP hD hS hA 0 0 rfl rfl rfl [0, 1] [0, 1, 2, 3, 4, 5, 6, 7, 8] [9] [1, 2, 3, 4, 5, 6, 7, 8, 9, 0] rfl rfl rfl rfl rfl (by decide) rfl rfl rfl hl.1 rfl (Nat.le_of_ble_eq_true rfl) d_L_formula_7 ⟨Nat.le_of_ble_eq_true rfl, Nat.le_of_ble_eq_true rfl⟩ (fun xx ce H locs hP hD hS hce hcv hcl => ?_)
  refine vx_catch (own := R_L) (name := X_ISE) hown [⟨0, 12, 15, 13⟩] ⟨0, 12, 19, 15⟩ [] hT (List.forall_mem_cons.mpr ⟨Or.inr ⟨by decide, X_IAE, hts _ wd_138, hX.2.2.1⟩, fun _ h => absurd h List.not_mem_nil⟩) (by decide) (by decide) (hts _ wd_139) (cast_ISE hX.2.1.2.2.2) hce hcv hcl ?_
  refine lv_astore (lv' := [(5, .ref xx), (0, .ref (ad 0)), (1, .int kd), (2, .int ka), (3, .int kb), (4, .ref o)]) hx hb d_L_formula_19 hl (by decide) rfl (fun ls hl => ?_)
  refine lv_iconst (v := nI 2) hx hb d_L_formula_21 (by decide) ?_
  exact fh_iret hx hb hr hlocks hAe hK hP hD hS rfl (Nat.le_refl _) (Nat.le_refl _) d_L_formula_22
set_option maxHeartbeats 4000000 in
set_option maxRecDepth 100000 in
theorem h_assertion_0 (l : Launch) (D : va_G) (hst : l.stackTraces = false) (n0 t0 : Nat) (ad : Nat → Nat) (cL cI : ClassId) (nv nb nt nf na lv nm : Nat) (vw vp tw ab am : Nat → Nat) (w : Nat → Int64)  (o : Nat) (fo : Nat → Int64) (hok : Bok nv nb nt nf na lv nm vw vp tw ab am) (u : ∀ i, i < 9 → n0 ≤ ad i) (uo : n0 ≤ o) (f : Nat) (hf : f < nf) (hn : na < 30) : Fh l y_L_assertion (wkW y_L_assertion b_L_assertion 4 (some .int) [(0, 9, 12, 28), (0, 9, 15, 15)]) rh_assertion D cls [(cL, .long), (cI, .int)] [.ref (ad 0), .int (nI f), .ref o] (hW ad cL cI nv nb nt nf na lv nm vw vp tw ab am w o fo) (Xh n0 t0) (some (.int (nI 0))) (hW ad cL cI nv nb nt nf (na + 1) lv nm vw vp tw ab am (oAnd (250 + lv) (250 + lv) f 1 w) o (vp_updL fo 0 (nI (na + 1)).toInt64)) := by
  refine Fh.of (by decide) rfl (Nat.le_of_ble_eq_true rfl) ?_
  intro p e s m below meth c A ls hx hb hml hr hts0 hown hlocks hT hP hK hD hS hA hAe hX hl
  have hts : ∀ w ∈ lw_ok, w.before _ s = true := fun w h => hts0 w (List.mem_cons_of_mem _ h)
  have hown : s.vm.findClass R_L = some m.cls := hown
  have hP : va_P D cls (hW ad cL cI nv nb nt nf na lv nm vw vp tw ab am w o fo) s.heap := hP
  have hl : lv_has ls 4 [(0, .ref (ad 0)), (1, .int (nI f)), (2, .ref o)] := hl
  have hAn : ∀ q, A q → n0 ≤ q := fun q h => by rw [hAe] at h; exact Xh_A hX u uo h
  refine lv_aload_n hx hb d_L_assertion_0 rfl (lv_at hl 2 rfl) ?_
  refine lv_iconst (v := nI 0) hx hb d_L_assertion_1 (by decide) ?_
  refine lv_aload_n hx hb d_L_assertion_2 rfl (lv_at hl 0 rfl) ?_
  refine lv_iload_n hx hb d_L_assertion_3 rfl (lv_at hl 1 rfl) ?_
  refine fn_V (ws' := (hW ad cL cI nv nb nt nf (na + 1) lv nm vw vp tw ab am (oAnd (250 + lv) (250 + lv) f 1 w) o fo)) (w1 := (bsW ad cL cI nv nb nt nf (na + 1) lv nm vw vp tw ab am (oAnd (250 + lv) (250 + lv) f 1 w))) (wc := (bsW ad cL cI nv nb nt nf na lv nm vw vp tw ab am w)) (wr := [(o, .inl (cL, 1, .inr (.inl fo)))]) ⟨hx, hb, hml, hown, hts⟩ (c_B_assertion l D ad cL cI nv nb nt nf na lv nm vw vp tw ab am w hok f hf hn) ⟨callB_of 1 hts (gW wd_386) rfl rfl rfl (hts _ wd_1) (hts _ wd_383) hd_B_assertion ⟨Nat.le_of_ble_eq_true rfl, Nat.le_of_ble_eq_true rfl⟩, hts _ wd_384, hts _ wd_385⟩ XT_ok (fun _ _ _ => trivial) hK hP hD hS hA 0 0 rfl rfl rfl [0, 1] [0, 1, 2, 3, 4, 5, 6, 7, 8] [9] [1, 2, 3, 4, 5, 6, 7, 8, 9, 0] rfl rfl rfl rfl rfl (by decide) rfl rfl rfl hl.1 rfl (Nat.le_of_ble_eq_true rfl) d_L_assertion_4 ⟨Nat.zero_le _, Nat.zero_le _⟩ (st1 := [.int (nI (na + 1)), .int (nI 0), .ref o]) rfl (fun H locs hP hD hS => ?_)
  refine lv_i2l hx hb d_L_assertion_7 rfl ?_
  refine n_last hx hb hK hP hD hS 9 0 rfl rfl (i := 0) (by omega) (by omega) rfl d_L_assertion_8 (ws' := (hW ad cL cI nv nb nt nf (na + 1) lv nm vw vp tw ab am (oAnd (250 + lv) (250 + lv) f 1 w) o (vp_updL fo 0 ((nI (na + 1)).toInt64)))) rfl (fun H locs hP hD hS => ?_)
  refine lv_goto (tgt := 18) hx hb d_L_assertion_9 (by decide) ?_
  refine lv_iconst (v := nI 0) hx hb d_L_assertion_18 (by decide) ?_
  exact fh_iret hx hb hr hlocks hAe hK hP hD hS rfl (Nat.zero_le _) (Nat.zero_le _) d_L_assertion_19
set_option maxHeartbeats 4000000 in
set_option maxRecDepth 100000 in
theorem h_assume_0 (l : Launch) (D : va_G) (hst : l.stackTraces = false) (n0 t0 : Nat) (ad : Nat → Nat) (cL cI : ClassId) (nv nb nt nf na lv nm : Nat) (vw vp tw ab am : Nat → Nat) (w : Nat → Int64)  (o : Nat) (fo : Nat → Int64) (hok : Bok nv nb nt nf na lv nm vw vp tw ab am) (u : ∀ i, i < 9 → n0 ≤ ad i) (uo : n0 ≤ o) (f : Nat) (hf : f < nf) (hn : nm < 8) : Fh l y_L_assume (wkW y_L_assume b_L_assume 4 (some .int) [(0, 9, 12, 28), (0, 9, 15, 15)]) rh_assume D cls [(cL, .long), (cI, .int)] [.ref (ad 0), .int (nI f), .ref o] (hW ad cL cI nv nb nt nf na lv nm vw vp tw ab am w o fo) (Xh n0 t0) (some (.int (nI 0))) (hW ad cL cI nv nb nt nf na lv (nm + 1) vw vp tw ab (updN am nm f) w o (vp_updL fo 0 (nI (nm + 1)).toInt64)) := by
  refine Fh.of (by decide) rfl (Nat.le_of_ble_eq_true rfl) ?_
  intro p e s m below meth c A ls hx hb hml hr hts0 hown hlocks hT hP hK hD hS hA hAe hX hl
  have hts : ∀ w ∈ lw_ok, w.before _ s = true := fun w h => hts0 w (List.mem_cons_of_mem _ h)
  have hown : s.vm.findClass R_L = some m.cls := hown
  have hP : va_P D cls (hW ad cL cI nv nb nt nf na lv nm vw vp tw ab am w o fo) s.heap := hP
  have hl : lv_has ls 4 [(0, .ref (ad 0)), (1, .int (nI f)), (2, .ref o)] := hl
  have hAn : ∀ q, A q → n0 ≤ q := fun q h => by rw [hAe] at h; exact Xh_A hX u uo h
  refine lv_aload_n hx hb d_L_assume_0 rfl (lv_at hl 2 rfl) ?_
  refine lv_iconst (v := nI 0) hx hb d_L_assume_1 (by decide) ?_
  refine lv_aload_n hx hb d_L_assume_2 rfl (lv_at hl 0 rfl) ?_
  refine lv_iload_n hx hb d_L_assume_3 rfl (lv_at hl 1 rfl) ?_
  refine fn_V (ws' := (hW ad cL cI nv nb nt nf na lv (nm + 1) vw vp tw ab (updN am nm f) w o fo)) (w1 := (bsW ad cL cI nv nb nt nf na lv (nm + 1) vw vp tw ab (updN am nm f) w)) (wc := (bsW ad cL cI nv nb nt nf na lv nm vw vp tw ab am w)) (wr := [(o, .inl (cL, 1, .inr (.inl fo)))]) ⟨hx, hb, hml, hown, hts⟩ (c_B_assume l D ad cL cI nv nb nt nf na lv nm vw vp tw ab am w hok f hf hn) ⟨callB_of 1 hts (gW wd_493) rfl rfl rfl (hts _ wd_1) (hts _ wd_490) hd_B_assume ⟨Nat.le_of_ble_eq_true rfl, Nat.le_of_ble_eq_true rfl⟩, hts _ wd_491, hts _ wd_492⟩ XT_ok (fun _ _ _ => trivial) hK hP hD hS hA 0 0 rfl rfl rfl [0, 1] [0, 1, 2, 3, 4, 5, 6, 7, 8] [9] [1, 2, 3, 4, 5, 6, 7, 8, 9, 0] rfl rfl rfl rfl rfl (by decide) rfl rfl rfl hl.1 rfl (Nat.le_of_ble_eq_true rfl) d_L_assume_4 ⟨Nat.zero_le _, Nat.zero_le _⟩ (st1 := [.int (nI (nm + 1)), .int (nI 0), .ref o]) rfl (fun H locs hP hD hS => ?_)
  refine lv_i2l hx hb d_L_assume_7 rfl ?_
  refine n_last hx hb hK hP hD hS 9 0 rfl rfl (i := 0) (by omega) (by omega) rfl d_L_assume_8 (ws' := (hW ad cL cI nv nb nt nf na lv (nm + 1) vw vp tw ab (updN am nm f) w o (vp_updL fo 0 ((nI (nm + 1)).toInt64)))) rfl (fun H locs hP hD hS => ?_)
  refine lv_goto (tgt := 18) hx hb d_L_assume_9 (by decide) ?_
  refine lv_iconst (v := nI 0) hx hb d_L_assume_18 (by decide) ?_
  exact fh_iret hx hb hr hlocks hAe hK hP hD hS rfl (Nat.zero_le _) (Nat.zero_le _) d_L_assume_19
set_option maxHeartbeats 4000000 in
set_option maxRecDepth 100000 in
theorem h_push_0 (l : Launch) (D : va_G) (hst : l.stackTraces = false) (n0 t0 : Nat) (ad : Nat → Nat) (cL cI : ClassId) (nv nb nt nf na lv nm : Nat) (vw vp tw ab am : Nat → Nat) (w : Nat → Int64)  (o : Nat) (fo : Nat → Int64) (hok : Bok nv nb nt nf na lv nm vw vp tw ab am) (u : ∀ i, i < 9 → n0 ≤ ad i) (uo : n0 ≤ o) (hn : lv < 5) : Fh l y_L_push (wkW y_L_push b_L_push 3 (some .int) [(0, 8, 11, 15)]) rh_push D cls [(cL, .long), (cI, .int)] [.ref (ad 0), .ref o] (hW ad cL cI nv nb nt nf na lv nm vw vp tw ab am w o fo) (Xh n0 t0) (some (.int (nI 0))) (hW ad cL cI nv nb nt nf na (lv + 1) nm vw vp tw (updN ab (lv + 1) na) am (oCopy (250 + lv + 1) (250 + lv) 1 w) o (vp_updL fo 0 (nI (lv + 1)).toInt64)) := by
  refine Fh.of (by decide) rfl (Nat.le_of_ble_eq_true rfl) ?_
  intro p e s m below meth c A ls hx hb hml hr hts0 hown hlocks hT hP hK hD hS hA hAe hX hl
  have hts : ∀ w ∈ lw_ok, w.before _ s = true := fun w h => hts0 w (List.mem_cons_of_mem _ h)
  have hown : s.vm.findClass R_L = some m.cls := hown
  have hP : va_P D cls (hW ad cL cI nv nb nt nf na lv nm vw vp tw ab am w o fo) s.heap := hP
  have hl : lv_has ls 3 [(0, .ref (ad 0)), (1, .ref o)] := hl
  have hAn : ∀ q, A q → n0 ≤ q := fun q h => by rw [hAe] at h; exact Xh_A hX u uo h
  refine lv_aload_n hx hb d_L_push_0 rfl (lv_at hl 1 rfl) ?_
  refine lv_iconst (v := nI 0) hx hb d_L_push_1 (by decide) ?_
  refine lv_aload_n hx hb d_L_push_2 rfl (lv_at hl 0 rfl) ?_
  refine fn_V (ws' := (hW ad cL cI nv nb nt nf na (lv + 1) nm vw vp tw (updN ab (lv + 1) na) am (oCopy (250 + lv + 1) (250 + lv) 1 w) o fo)) (w1 := (bsW ad cL cI nv nb nt nf na (lv + 1) nm vw vp tw (updN ab (lv + 1) na) am (oCopy (250 + lv + 1) (250 + lv) 1 w))) (wc := (bsW ad cL cI nv nb nt nf na lv nm vw vp tw ab am w)) (wr := [(o, .inl (cL, 1, .inr (.inl fo)))]) ⟨hx, hb, hml, hown, hts⟩ (c_B_push l D ad cL cI nv nb nt nf na lv nm vw vp tw ab am w hok hn) ⟨callB_of 0 hts (gW wd_408) rfl rfl rfl (hts _ wd_1) (hts _ wd_405) hd_B_push ⟨Nat.le_of_ble_eq_true rfl, Nat.le_of_ble_eq_true rfl⟩, hts _ wd_406, hts _ wd_407⟩ XT_ok (fun _ _ _ => trivial) hK hP hD hS hA 0 0 rfl rfl rfl [0, 1] [0, 1, 2, 3, 4, 5, 6, 7, 8] [9] [1, 2, 3, 4, 5, 6, 7, 8, 9, 0] rfl rfl rfl rfl rfl (by decide) rfl rfl rfl hl.1 rfl (Nat.le_of_ble_eq_true rfl) d_L_push_3 ⟨Nat.zero_le _, Nat.zero_le _⟩ (st1 := [.int (nI (lv + 1)), .int (nI 0), .ref o]) rfl (fun H locs hP hD hS => ?_)
  refine lv_i2l hx hb d_L_push_6 rfl ?_
  refine n_last hx hb hK hP hD hS 9 0 rfl rfl (i := 0) (by omega) (by omega) rfl d_L_push_7 (ws' := (hW ad cL cI nv nb nt nf na (lv + 1) nm vw vp tw (updN ab (lv + 1) na) am (oCopy (250 + lv + 1) (250 + lv) 1 w) o (vp_updL fo 0 ((nI (lv + 1)).toInt64)))) rfl (fun H locs hP hD hS => ?_)
  refine lv_goto (tgt := 14) hx hb d_L_push_8 (by decide) ?_
  refine lv_iconst (v := nI 0) hx hb d_L_push_14 (by decide) ?_
  exact fh_iret hx hb hr hlocks hAe hK hP hD hS rfl (Nat.zero_le _) (Nat.zero_le _) d_L_push_15
set_option maxHeartbeats 4000000 in
set_option maxRecDepth 100000 in
theorem h_push_1 (l : Launch) (D : va_G) (hst : l.stackTraces = false) (n0 t0 : Nat) (ad : Nat → Nat) (cL cI : ClassId) (nv nb nt nf na lv nm : Nat) (vw vp tw ab am : Nat → Nat) (w : Nat → Int64)  (o : Nat) (fo : Nat → Int64) (hok : Bok nv nb nt nf na lv nm vw vp tw ab am) (u : ∀ i, i < 9 → n0 ≤ ad i) (uo : n0 ≤ o) (hn : 5 ≤ lv) : Fh l y_L_push (wkW y_L_push b_L_push 3 (some .int) [(0, 8, 11, 15)]) rh_push D cls [(cL, .long), (cI, .int)] [.ref (ad 0), .ref o] (hW ad cL cI nv nb nt nf na lv nm vw vp tw ab am w o fo) (Xh n0 t0) (some (.int (nI 1))) (hW ad cL cI nv nb nt nf na lv nm vw vp tw ab am w o fo) := by
  refine Fh.of (by decide) rfl (Nat.le_of_ble_eq_true rfl) ?_
  intro p e s m below meth c A ls hx hb hml hr hts0 hown hlocks hT hP hK hD hS hA hAe hX hl
  have hts : ∀ w ∈ lw_ok, w.before _ s = true := fun w h => hts0 w (List.mem_cons_of_mem _ h)
  have hown : s.vm.findClass R_L = some m.cls := hown
  have hP : va_P D cls (hW ad cL cI nv nb nt nf na lv nm vw vp tw ab am w o fo) s.heap := hP
  have hl : lv_has ls 3 [(0, .ref (ad 0)), (1, .ref o)] := hl
  have hAn : ∀ q, A q → n0 ≤ q := fun q h => by rw [hAe] at h; exact Xh_A hX u uo h
  refine lv_aload_n hx hb d_L_push_0 rfl (lv_at hl 1 rfl) ?_
  refine lv_iconst (v := nI 0) hx hb d_L_push_1 (by decide) ?_
  refine lv_aload_n hx hb d_L_push_2 rfl (lv_at hl 0 rfl) ?_
  refine ft_V (ws' := (hW ad cL cI nv nb nt nf na lv nm vw vp tw ab am w o fo)) (w1 := (bsW ad cL cI nv nb nt nf na lv nm vw vp tw ab am w)) (wc := (bsW ad cL cI nv nb nt nf na lv nm vw vp tw ab am w)) (wr := [(o, .inl (cL, 1, .inr (.inl fo)))]) ⟨hx, hb, hml, hown, hts⟩ (e_B_push_1 l D hst n0 ad cL cI nv nb nt nf na lv nm vw vp tw ab am w hok u hn) ⟨callB_of 0 hts (gW wd_408) rfl rfl rfl (hts _ wd_1) (hts _ wd_405) hd_B_push ⟨Nat.le_of_ble_eq_true rfl, Nat.le_of_ble_eq_true rfl⟩, hts _ wd_406, hts _ wd_407⟩ Ze_ok (Ze_kept hX.2.1 hS hAn) hK hP hD hS hA 0 0 rfl rfl rfl [0, 1] [0, 1, 2, 3, 4, 5, 6, 7, 8] [9] [1, 2, 3, 4, 5, 6, 7, 8, 9, 0] rfl rfl rfl rfl rfl (by decide) rfl rfl rfl hl.1 rfl (Nat.le_of_ble_eq_true rfl) d_L_push_3 ⟨Nat.le_of_ble_eq_true rfl, Nat.le_of_ble_eq_true rfl⟩ (fun xx ce H locs hP hD hS hce hcv hcl => ?_)
  refine vx_catch (own := R_L) (name := X_ISE) hown [] ⟨0, 8, 11, 15⟩ [] hT (fun _ h => absurd h List.not_mem_nil) (by decide) (by decide) (hts _ wd_139) (cast_ISE hX.2.1.2.2.2) hce hcv hcl ?_
  refine lv_astore_n (lv' := [(2, .ref xx), (0, .ref (ad 0)), (1, .ref o)]) hx hb d_L_push_11 rfl hl (by decide) rfl (fun ls hl => ?_)
  refine lv_iconst (v := nI 1) hx hb d_L_push_12 (by decide) ?_
  exact fh_iret hx hb hr hlocks hAe hK hP hD hS rfl (Nat.le_refl _) (Nat.le_refl _) d_L_push_13
set_option maxHeartbeats 4000000 in
set_option maxRecDepth 100000 in
theorem h_pop_0 (l : Launch) (D : va_G) (hst : l.stackTraces = false) (n0 t0 : Nat) (ad : Nat → Nat) (cL cI : ClassId) (nv nb nt nf na lv nm : Nat) (vw vp tw ab am : Nat → Nat) (w : Nat → Int64)  (o : Nat) (fo : Nat → Int64) (hok : Bok nv nb nt nf na lv nm vw vp tw ab am) (u : ∀ i, i < 9 → n0 ≤ ad i) (uo : n0 ≤ o) (hn : 0 < lv) : Fh l y_L_pop (wkW y_L_pop b_L_pop 3 (some .int) [(0, 8, 11, 15)]) rh_pop D cls [(cL, .long), (cI, .int)] [.ref (ad 0), .ref o] (hW ad cL cI nv nb nt nf na lv nm vw vp tw ab am w o fo) (Xh n0 t0) (some (.int (nI 0))) (hW ad cL cI nv nb nt nf (ab lv) (lv - 1) nm vw vp tw ab am w o (vp_updL fo 0 (nI (na - ab lv)).toInt64)) := by
  refine Fh.of (by decide) rfl (Nat.le_of_ble_eq_true rfl) ?_
  intro p e s m below meth c A ls hx hb hml hr hts0 hown hlocks hT hP hK hD hS hA hAe hX hl
  have hts : ∀ w ∈ lw_ok, w.before _ s = true := fun w h => hts0 w (List.mem_cons_of_mem _ h)
  have hown : s.vm.findClass R_L = some m.cls := hown
  have hP : va_P D cls (hW ad cL cI nv nb nt nf na lv nm vw vp tw ab am w o fo) s.heap := hP
  have hl : lv_has ls 3 [(0, .ref (ad 0)), (1, .ref o)] := hl
  have hAn : ∀ q, A q → n0 ≤ q := fun q h => by rw [hAe] at h; exact Xh_A hX u uo h
  refine lv_aload_n hx hb d_L_pop_0 rfl (lv_at hl 1 rfl) ?_
  refine lv_iconst (v := nI 0) hx hb d_L_pop_1 (by decide) ?_
  refine lv_aload_n hx hb d_L_pop_2 rfl (lv_at hl 0 rfl) ?_
  refine fn_V (ws' := (hW ad cL cI nv nb nt nf (ab lv) (lv - 1) nm vw vp tw ab am w o fo)) (w1 := (bsW ad cL cI nv nb nt nf (ab lv) (lv - 1) nm vw vp tw ab am w)) (wc := (bsW ad cL cI nv nb nt nf na lv nm vw vp tw ab am w)) (wr := [(o, .inl (cL, 1, .inr (.inl fo)))]) ⟨hx, hb, hml, hown, hts⟩ (c_B_pop l D ad cL cI nv nb nt nf na lv nm vw vp tw ab am w hok hn) ⟨callB_of 0 hts (gW wd_415) rfl rfl rfl (hts _ wd_1) (hts _ wd_412) hd_B_pop ⟨Nat.le_of_ble_eq_true rfl, Nat.le_of_ble_eq_true rfl⟩, hts _ wd_413, hts _ wd_414⟩ XT_ok (fun _ _ _ => trivial) hK hP hD hS hA 0 0 rfl rfl rfl [0, 1] [0, 1, 2, 3, 4, 5, 6, 7, 8] [9] [1, 2, 3, 4, 5, 6, 7, 8, 9, 0] rfl rfl rfl rfl rfl (by decide) rfl rfl rfl hl.1 rfl (Nat.le_of_ble_eq_true rfl) d_L_pop_3 ⟨Nat.zero_le _, Nat.zero_le _⟩ (st1 := [.int (nI (na - ab lv)), .int (nI 0), .ref o]) rfl (fun H locs hP hD hS => ?_)
  refine lv_i2l hx hb d_L_pop_6 rfl ?_
  refine n_last hx hb hK hP hD hS 9 0 rfl rfl (i := 0) (by omega) (by omega) rfl d_L_pop_7 (ws' := (hW ad cL cI nv nb nt nf (ab lv) (lv - 1) nm vw vp tw ab am w o (vp_updL fo 0 ((nI (na - ab lv)).toInt64)))) rfl (fun H locs hP hD hS => ?_)
  refine lv_goto (tgt := 14) hx hb d_L_pop_8 (by decide) ?_
  refine lv_iconst (v := nI 0) hx hb d_L_pop_14 (by decide) ?_
  exact fh_iret hx hb hr hlocks hAe hK hP hD hS rfl (Nat.zero_le _) (Nat.zero_le _) d_L_pop_15
set_option maxHeartbeats 4000000 in
set_option maxRecDepth 100000 in
theorem h_pop_1 (l : Launch) (D : va_G) (hst : l.stackTraces = false) (n0 t0 : Nat) (ad : Nat → Nat) (cL cI : ClassId) (nv nb nt nf na lv nm : Nat) (vw vp tw ab am : Nat → Nat) (w : Nat → Int64)  (o : Nat) (fo : Nat → Int64) (hok : Bok nv nb nt nf na lv nm vw vp tw ab am) (u : ∀ i, i < 9 → n0 ≤ ad i) (uo : n0 ≤ o) (hn : lv = 0) : Fh l y_L_pop (wkW y_L_pop b_L_pop 3 (some .int) [(0, 8, 11, 15)]) rh_pop D cls [(cL, .long), (cI, .int)] [.ref (ad 0), .ref o] (hW ad cL cI nv nb nt nf na lv nm vw vp tw ab am w o fo) (Xh n0 t0) (some (.int (nI 1))) (hW ad cL cI nv nb nt nf na lv nm vw vp tw ab am w o fo) := by
  refine Fh.of (by decide) rfl (Nat.le_of_ble_eq_true rfl) ?_
  intro p e s m below meth c A ls hx hb hml hr hts0 hown hlocks hT hP hK hD hS hA hAe hX hl
  have hts : ∀ w ∈ lw_ok, w.before _ s = true := fun w h => hts0 w (List.mem_cons_of_mem _ h)
  have hown : s.vm.findClass R_L = some m.cls := hown
  have hP : va_P D cls (hW ad cL cI nv nb nt nf na lv nm vw vp tw ab am w o fo) s.heap := hP
  have hl : lv_has ls 3 [(0, .ref (ad 0)), (1, .ref o)] := hl
  have hAn : ∀ q, A q → n0 ≤ q := fun q h => by rw [hAe] at h; exact Xh_A hX u uo h
  refine lv_aload_n hx hb d_L_pop_0 rfl (lv_at hl 1 rfl) ?_
  refine lv_iconst (v := nI 0) hx hb d_L_pop_1 (by decide) ?_
  refine lv_aload_n hx hb d_L_pop_2 rfl (lv_at hl 0 rfl) ?_
  refine ft_V (ws' := (hW ad cL cI nv nb nt nf na lv nm vw vp tw ab am w o fo)) (w1 := (bsW ad cL cI nv nb nt nf na lv nm vw vp tw ab am w)) (wc := (bsW ad cL cI nv nb nt nf na lv nm vw vp tw ab am w)) (wr := [(o, .inl (cL, 1, .inr (.inl fo)))]) ⟨hx, hb, hml, hown, hts⟩ (e_B_pop_1 l D hst n0 ad cL cI nv nb nt nf na lv nm vw vp tw ab am w hok u hn) ⟨callB_of 0 hts (gW wd_415) rfl rfl rfl (hts _ wd_1) (hts _ wd_412) hd_B_pop ⟨Nat.le_of_ble_eq_true rfl, Nat.le_of_ble_eq_true rfl⟩, hts _ wd_413, hts _ wd_414⟩ Ze_ok (Ze_kept hX.2.1 hS hAn) hK hP hD hS hA 0 0 rfl rfl rfl [0, 1] [0, 1, 2, 3, 4, 5, 6, 7, 8] [9] [1, 2, 3, 4, 5, 6, 7, 8, 9, 0] rfl rfl rfl rfl rfl (by decide) rfl rfl rfl hl.1 rfl (Nat.le_of_ble_eq_true rfl) d_L_pop_3 ⟨Nat.le_of_ble_eq_true rfl, Nat.le_of_ble_eq_true rfl⟩ (fun xx ce H locs hP hD hS hce hcv hcl => ?_)
  refine vx_catch (own := R_L) (name := X_ISE) hown [] ⟨0, 8, 11, 15⟩ [] hT (fun _ h => absurd h List.not_mem_nil) (by decide) (by decide) (hts _ wd_139) (cast_ISE hX.2.1.2.2.2) hce hcv hcl ?_
  refine lv_astore_n (lv' := [(2, .ref xx), (0, .ref (ad 0)), (1, .ref o)]) hx hb d_L_pop_11 rfl hl (by decide) rfl (fun ls hl => ?_)
  refine lv_iconst (v := nI 1) hx hb d_L_pop_12 (by decide) ?_
  exact fh_iret hx hb hr hlocks hAe hK hP hD hS rfl (Nat.le_refl _) (Nat.le_refl _) d_L_pop_13
set_option maxHeartbeats 4000000 in
set_option maxRecDepth 100000 in
theorem h_value_0 (l : Launch) (D : va_G) (hst : l.stackTraces = false) (n0 t0 : Nat) (ad : Nat → Nat) (cL cI : ClassId) (nv nb nt nf na lv nm : Nat) (vw vp tw ab am : Nat → Nat) (w : Nat → Int64)  (o : Nat) (fo : Nat → Int64) (hok : Bok nv nb nt nf na lv nm vw vp tw ab am) (u : ∀ i, i < 9 → n0 ≤ ad i) (uo : n0 ≤ o) (v : Nat) (hv : v < nv) (hm : (!pNone w (250 + lv) (250 + lv)) = true) : Fh l y_L_value (wkW y_L_value b_L_value 4 (some .int) [(0, 9, 12, 28), (0, 9, 15, 40)]) rh_value D cls [(cL, .long), (cI, .int)] [.ref (ad 0), .int (nI v), .ref o] (hW ad cL cI nv nb nt nf na lv nm vw vp tw ab am w o fo) (Xh n0 t0) (some (.int (nI 0))) (hW ad cL cI nv nb nt nf na lv nm vw vp tw ab am w o (vp_updL fo 0 (nI (pLow w (250 + lv) / 2 ^ vp v &&& 2 ^ vw v - 1)).toInt64)) := by
  refine Fh.of (by decide) rfl (Nat.le_of_ble_eq_true rfl) ?_
  intro p e s m below meth c A ls hx hb hml hr hts0 hown hlocks hT hP hK hD hS hA hAe hX hl
  have hts : ∀ w ∈ lw_ok, w.before _ s = true := fun w h => hts0 w (List.mem_cons_of_mem _ h)
  have hown : s.vm.findClass R_L = some m.cls := hown
  have hP : va_P D cls (hW ad cL cI nv nb nt nf na lv nm vw vp tw ab am w o fo) s.heap := hP
  have hl : lv_has ls 4 [(0, .ref (ad 0)), (1, .int (nI v)), (2, .ref o)] := hl
  have hAn : ∀ q, A q → n0 ≤ q := fun q h => by rw [hAe] at h; exact Xh_A hX u uo h
  refine lv_aload_n hx hb d_L_value_0 rfl (lv_at hl 2 rfl) ?_
  refine lv_iconst (v := nI 0) hx hb d_L_value_1 (by decide) ?_
  refine lv_aload_n hx hb d_L_value_2 rfl (lv_at hl 0 rfl) ?_
  refine lv_iload_n hx hb d_L_value_3 rfl (lv_at hl 1 rfl) ?_
  refine fn_V (ws' := (hW ad cL cI nv nb nt nf na lv nm vw vp tw ab am w o fo)) (w1 := (bsW ad cL cI nv nb nt nf na lv nm vw vp tw ab am w)) (wc := (bsW ad cL cI nv nb nt nf na lv nm vw vp tw ab am w)) (wr := [(o, .inl (cL, 1, .inr (.inl fo)))]) ⟨hx, hb, hml, hown, hts⟩ (c_B_value l D ad cL cI nv nb nt nf na lv nm vw vp tw ab am w hok v hv hm) ⟨callB_of 1 hts (gW wd_423) rfl rfl rfl (hts _ wd_1) (hts _ wd_420) hd_B_value ⟨Nat.le_of_ble_eq_true rfl, Nat.le_of_ble_eq_true rfl⟩, hts _ wd_421, hts _ wd_422⟩ XT_ok (fun _ _ _ => trivial) hK hP hD hS hA 0 0 rfl rfl rfl [0, 1] [0, 1, 2, 3, 4, 5, 6, 7, 8] [9] [1, 2, 3, 4, 5, 6, 7, 8, 9, 0] rfl rfl rfl rfl rfl (by decide) rfl rfl rfl hl.1 rfl (Nat.le_of_ble_eq_true rfl) d_L_value_4 ⟨Nat.zero_le _, Nat.zero_le _⟩ (st1 := [.int (nI (pLow w (250 + lv) / 2 ^ vp v &&& 2 ^ vw v - 1)), .int (nI 0), .ref o]) rfl (fun H locs hP hD hS => ?_)
  refine lv_i2l hx hb d_L_value_7 rfl ?_
  refine n_last hx hb hK hP hD hS 9 0 rfl rfl (i := 0) (by omega) (by omega) rfl d_L_value_8 (ws' := (hW ad cL cI nv nb nt nf na lv nm vw vp tw ab am w o (vp_updL fo 0 ((nI (pLow w (250 + lv) / 2 ^ vp v &&& 2 ^ vw v - 1)).toInt64)))) rfl (fun H locs hP hD hS => ?_)
  refine lv_goto (tgt := 18) hx hb d_L_value_9 (by decide) ?_
  refine lv_iconst (v := nI 0) hx hb d_L_value_18 (by decide) ?_
  exact fh_iret hx hb hr hlocks hAe hK hP hD hS rfl (Nat.zero_le _) (Nat.zero_le _) d_L_value_19
set_option maxHeartbeats 4000000 in
set_option maxRecDepth 100000 in
theorem h_valueOf_0 (l : Launch) (D : va_G) (hst : l.stackTraces = false) (n0 t0 : Nat) (ad : Nat → Nat) (cL cI : ClassId) (nv nb nt nf na lv nm : Nat) (vw vp tw ab am : Nat → Nat) (w : Nat → Int64)  (o : Nat) (fo : Nat → Int64) (hok : Bok nv nb nt nf na lv nm vw vp tw ab am) (u : ∀ i, i < 9 → n0 ≤ ad i) (uo : n0 ≤ o) (t : Nat) (ht : t < nt) (hm : (!pNone w (250 + lv) (250 + lv)) = true) : Fh l y_L_valueOf (wkW y_L_valueOf b_L_valueOf 4 (some .int) [(0, 9, 12, 28), (0, 9, 15, 40)]) rh_valueOf D cls [(cL, .long), (cI, .int)] [.ref (ad 0), .int (nI t), .ref o] (hW ad cL cI nv nb nt nf na lv nm vw vp tw ab am w o fo) (Xh n0 t0) (some (.int (nI 0))) (hW ad cL cI nv nb nt nf na lv nm vw vp tw ab am w o (vp_updL fo 0 (nI (vbits w (50 + t * 4) (pLow w (250 + lv)) (tw t))).toInt64)) := by
  refine Fh.of (by decide) rfl (Nat.le_of_ble_eq_true rfl) ?_
  intro p e s m below meth c A ls hx hb hml hr hts0 hown hlocks hT hP hK hD hS hA hAe hX hl
  have hts : ∀ w ∈ lw_ok, w.before _ s = true := fun w h => hts0 w (List.mem_cons_of_mem _ h)
  have hown : s.vm.findClass R_L = some m.cls := hown
  have hP : va_P D cls (hW ad cL cI nv nb nt nf na lv nm vw vp tw ab am w o fo) s.heap := hP
  have hl : lv_has ls 4 [(0, .ref (ad 0)), (1, .int (nI t)), (2, .ref o)] := hl
  have hAn : ∀ q, A q → n0 ≤ q := fun q h => by rw [hAe] at h; exact Xh_A hX u uo h
  refine lv_aload_n hx hb d_L_valueOf_0 rfl (lv_at hl 2 rfl) ?_
  refine lv_iconst (v := nI 0) hx hb d_L_valueOf_1 (by decide) ?_
  refine lv_aload_n hx hb d_L_valueOf_2 rfl (lv_at hl 0 rfl) ?_
  refine lv_iload_n hx hb d_L_valueOf_3 rfl (lv_at hl 1 rfl) ?_
  refine fn_V (ws' := (hW ad cL cI nv nb nt nf na lv nm vw vp tw ab am w o fo)) (w1 := (bsW ad cL cI nv nb nt nf na lv nm vw vp tw ab am w)) (wc := (bsW ad cL cI nv nb nt nf na lv nm vw vp tw ab am w)) (wr := [(o, .inl (cL, 1, .inr (.inl fo)))]) ⟨hx, hb, hml, hown, hts⟩ (c_B_valueOf l D ad cL cI nv nb nt nf na lv nm vw vp tw ab am w hok t ht hm) ⟨callB_of 1 hts (gW wd_452) rfl rfl rfl (hts _ wd_1) (hts _ wd_449) hd_B_valueOf ⟨Nat.le_of_ble_eq_true rfl, Nat.le_of_ble_eq_true rfl⟩, hts _ wd_450, hts _ wd_451⟩ XT_ok (fun _ _ _ => trivial) hK hP hD hS hA 0 0 rfl rfl rfl [0, 1] [0, 1, 2, 3, 4, 5, 6, 7, 8] [9] [1, 2, 3, 4, 5, 6, 7, 8, 9, 0] rfl rfl rfl rfl rfl (by decide) rfl rfl rfl hl.1 rfl (Nat.le_of_ble_eq_true rfl) d_L_valueOf_4 ⟨Nat.zero_le _, Nat.zero_le _⟩ (st1 := [.int (nI (vbits w (50 + t * 4) (pLow w (250 + lv)) (tw t))), .int (nI 0), .ref o]) rfl (fun H locs hP hD hS => ?_)
  refine lv_i2l hx hb d_L_valueOf_7 rfl ?_
  refine n_last hx hb hK hP hD hS 9 0 rfl rfl (i := 0) (by omega) (by omega) rfl d_L_valueOf_8 (ws' := (hW ad cL cI nv nb nt nf na lv nm vw vp tw ab am w o (vp_updL fo 0 ((nI (vbits w (50 + t * 4) (pLow w (250 + lv)) (tw t))).toInt64)))) rfl (fun H locs hP hD hS => ?_)
  refine lv_goto (tgt := 18) hx hb d_L_valueOf_9 (by decide) ?_
  refine lv_iconst (v := nI 0) hx hb d_L_valueOf_18 (by decide) ?_
  exact fh_iret hx hb hr hlocks hAe hK hP hD hS rfl (Nat.zero_le _) (Nat.zero_le _) d_L_valueOf_19
set_option maxHeartbeats 4000000 in
set_option maxRecDepth 100000 in
theorem h_entailed_0 (l : Launch) (D : va_G) (hst : l.stackTraces = false) (n0 t0 : Nat) (ad : Nat → Nat) (cL cI : ClassId) (nv nb nt nf na lv nm : Nat) (vw vp tw ab am : Nat → Nat) (w : Nat → Int64)  (o : Nat) (fo : Nat → Int64) (hok : Bok nv nb nt nf na lv nm vw vp tw ab am) (u : ∀ i, i < 9 → n0 ≤ ad i) (uo : n0 ≤ o) (f : Nat) (hf : f < nf) (hm : (!pNone w (250 + lv) (250 + lv)) = true) : Fh l y_L_entailed (wkW y_L_entailed b_L_entailed 4 (some .int) [(0, 9, 12, 28), (0, 9, 15, 40)]) rh_entailed D cls [(cL, .long), (cI, .int)] [.ref (ad 0), .int (nI f), .ref o] (hW ad cL cI nv nb nt nf na lv nm vw vp tw ab am w o fo) (Xh n0 t0) (some (.int (nI 0))) (hW ad cL cI nv nb nt nf na lv nm vw vp tw ab am w o (vp_updL fo 0 (nI (if pWithin w (250 + lv) f = true then 1 else if (!pNone w (250 + lv) f) = true then 2 else 0)).toInt64)) := by
  refine Fh.of (by decide) rfl (Nat.le_of_ble_eq_true rfl) ?_
  intro p e s m below meth c A ls hx hb hml hr hts0 hown hlocks hT hP hK hD hS hA hAe hX hl
  have hts : ∀ w ∈ lw_ok, w.before _ s = true := fun w h => hts0 w (List.mem_cons_of_mem _ h)
  have hown : s.vm.findClass R_L = some m.cls := hown
  have hP : va_P D cls (hW ad cL cI nv nb nt nf na lv nm vw vp tw ab am w o fo) s.heap := hP
  have hl : lv_has ls 4 [(0, .ref (ad 0)), (1, .int (nI f)), (2, .ref o)] := hl
  have hAn : ∀ q, A q → n0 ≤ q := fun q h => by rw [hAe] at h; exact Xh_A hX u uo h
  refine lv_aload_n hx hb d_L_entailed_0 rfl (lv_at hl 2 rfl) ?_
  refine lv_iconst (v := nI 0) hx hb d_L_entailed_1 (by decide) ?_
  refine lv_aload_n hx hb d_L_entailed_2 rfl (lv_at hl 0 rfl) ?_
  refine lv_iload_n hx hb d_L_entailed_3 rfl (lv_at hl 1 rfl) ?_
  refine fn_V (ws' := (hW ad cL cI nv nb nt nf na lv nm vw vp tw ab am w o fo)) (w1 := (bsW ad cL cI nv nb nt nf na lv nm vw vp tw ab am w)) (wc := (bsW ad cL cI nv nb nt nf na lv nm vw vp tw ab am w)) (wr := [(o, .inl (cL, 1, .inr (.inl fo)))]) ⟨hx, hb, hml, hown, hts⟩ (c_B_entailed l D ad cL cI nv nb nt nf na lv nm vw vp tw ab am w hok f hf hm) ⟨callB_of 1 hts (gW wd_463) rfl rfl rfl (hts _ wd_1) (hts _ wd_460) hd_B_entailed ⟨Nat.le_of_ble_eq_true rfl, Nat.le_of_ble_eq_true rfl⟩, hts _ wd_461, hts _ wd_462⟩ XT_ok (fun _ _ _ => trivial) hK hP hD hS hA 0 0 rfl rfl rfl [0, 1] [0, 1, 2, 3, 4, 5, 6, 7, 8] [9] [1, 2, 3, 4, 5, 6, 7, 8, 9, 0] rfl rfl rfl rfl rfl (by decide) rfl rfl rfl hl.1 rfl (Nat.le_of_ble_eq_true rfl) d_L_entailed_4 ⟨Nat.zero_le _, Nat.zero_le _⟩ (st1 := [.int (nI (if pWithin w (250 + lv) f = true then 1 else if (!pNone w (250 + lv) f) = true then 2 else 0)), .int (nI 0), .ref o]) rfl (fun H locs hP hD hS => ?_)
  refine lv_i2l hx hb d_L_entailed_7 rfl ?_
  refine n_last hx hb hK hP hD hS 9 0 rfl rfl (i := 0) (by omega) (by omega) rfl d_L_entailed_8 (ws' := (hW ad cL cI nv nb nt nf na lv nm vw vp tw ab am w o (vp_updL fo 0 ((nI (if pWithin w (250 + lv) f = true then 1 else if (!pNone w (250 + lv) f) = true then 2 else 0)).toInt64)))) rfl (fun H locs hP hD hS => ?_)
  refine lv_goto (tgt := 18) hx hb d_L_entailed_9 (by decide) ?_
  refine lv_iconst (v := nI 0) hx hb d_L_entailed_18 (by decide) ?_
  exact fh_iret hx hb hr hlocks hAe hK hP hD hS rfl (Nat.zero_le _) (Nat.zero_le _) d_L_entailed_19
set_option maxHeartbeats 4000000 in
set_option maxRecDepth 100000 in
theorem h_fixed_0 (l : Launch) (D : va_G) (hst : l.stackTraces = false) (n0 t0 : Nat) (ad : Nat → Nat) (cL cI : ClassId) (nv nb nt nf na lv nm : Nat) (vw vp tw ab am : Nat → Nat) (w : Nat → Int64)  (o : Nat) (fo : Nat → Int64) (hok : Bok nv nb nt nf na lv nm vw vp tw ab am) (u : ∀ i, i < 9 → n0 ≤ ad i) (uo : n0 ≤ o) (v : Nat) (hv : v < nv) (hm : (!pNone w (250 + lv) (250 + lv)) = true) : Fh l y_L_fixed (wkW y_L_fixed b_L_fixed 4 (some .int) [(0, 9, 12, 28), (0, 9, 15, 40)]) rh_fixed D cls [(cL, .long), (cI, .int)] [.ref (ad 0), .int (nI v), .ref o] (hW ad cL cI nv nb nt nf na lv nm vw vp tw ab am w o fo) (Xh n0 t0) (some (.int (nI 0))) (hW ad cL cI nv nb nt nf na lv nm vw vp tw ab am (fxW (vp v) (vw v) w) o (vp_updL fo 0 (nI (fxR (vp v) (250 + lv) w (vw v))).toInt64)) := by
  refine Fh.of (by decide) rfl (Nat.le_of_ble_eq_true rfl) ?_
  intro p e s m below meth c A ls hx hb hml hr hts0 hown hlocks hT hP hK hD hS hA hAe hX hl
  have hts : ∀ w ∈ lw_ok, w.before _ s = true := fun w h => hts0 w (List.mem_cons_of_mem _ h)
  have hown : s.vm.findClass R_L = some m.cls := hown
  have hP : va_P D cls (hW ad cL cI nv nb nt nf na lv nm vw vp tw ab am w o fo) s.heap := hP
  have hl : lv_has ls 4 [(0, .ref (ad 0)), (1, .int (nI v)), (2, .ref o)] := hl
  have hAn : ∀ q, A q → n0 ≤ q := fun q h => by rw [hAe] at h; exact Xh_A hX u uo h
  refine lv_aload_n hx hb d_L_fixed_0 rfl (lv_at hl 2 rfl) ?_
  refine lv_iconst (v := nI 0) hx hb d_L_fixed_1 (by decide) ?_
  refine lv_aload_n hx hb d_L_fixed_2 rfl (lv_at hl 0 rfl) ?_
  refine lv_iload_n hx hb d_L_fixed_3 rfl (lv_at hl 1 rfl) ?_
  refine fn_V (ws' := (hW ad cL cI nv nb nt nf na lv nm vw vp tw ab am (fxW (vp v) (vw v) w) o fo)) (w1 := (bsW ad cL cI nv nb nt nf na lv nm vw vp tw ab am (fxW (vp v) (vw v) w))) (wc := (bsW ad cL cI nv nb nt nf na lv nm vw vp tw ab am w)) (wr := [(o, .inl (cL, 1, .inr (.inl fo)))]) ⟨hx, hb, hml, hown, hts⟩ (c_B_fixed l D ad cL cI nv nb nt nf na lv nm vw vp tw ab am w hok n0 t0 u v hv hm) ⟨callB_of 1 hts (gW wd_478) rfl rfl rfl (hts _ wd_1) (hts _ wd_475) hd_B_fixed ⟨Nat.le_of_ble_eq_true rfl, Nat.le_of_ble_eq_true rfl⟩, hts _ wd_476, hts _ wd_477⟩ Zt_ok (Zt_kept hX.1 hS hAn) hK hP hD hS hA 0 0 rfl rfl rfl [0, 1] [0, 1, 2, 3, 4, 5, 6, 7, 8] [9] [1, 2, 3, 4, 5, 6, 7, 8, 9, 0] rfl rfl rfl rfl rfl (by decide) rfl rfl rfl hl.1 rfl (Nat.le_of_ble_eq_true rfl) d_L_fixed_4 ⟨Nat.zero_le _, Nat.zero_le _⟩ (st1 := [.int (nI (fxR (vp v) (250 + lv) w (vw v))), .int (nI 0), .ref o]) rfl (fun H locs hP hD hS => ?_)
  refine lv_i2l hx hb d_L_fixed_7 rfl ?_
  refine n_last hx hb hK hP hD hS 9 0 rfl rfl (i := 0) (by omega) (by omega) rfl d_L_fixed_8 (ws' := (hW ad cL cI nv nb nt nf na lv nm vw vp tw ab am (fxW (vp v) (vw v) w) o (vp_updL fo 0 ((nI (fxR (vp v) (250 + lv) w (vw v))).toInt64)))) rfl (fun H locs hP hD hS => ?_)
  refine lv_goto (tgt := 18) hx hb d_L_fixed_9 (by decide) ?_
  refine lv_iconst (v := nI 0) hx hb d_L_fixed_18 (by decide) ?_
  exact fh_iret hx hb hr hlocks hAe hK hP hD hS rfl (Nat.zero_le _) (Nat.zero_le _) d_L_fixed_19
set_option maxHeartbeats 4000000 in
set_option maxRecDepth 100000 in
theorem h_least_0 (l : Launch) (D : va_G) (hst : l.stackTraces = false) (n0 t0 : Nat) (ad : Nat → Nat) (cL cI : ClassId) (nv nb nt nf na lv nm : Nat) (vw vp tw ab am : Nat → Nat) (w : Nat → Int64)  (o : Nat) (fo : Nat → Int64) (hok : Bok nv nb nt nf na lv nm vw vp tw ab am) (u : ∀ i, i < 9 → n0 ≤ ad i) (uo : n0 ≤ o) (t : Nat) (ht : t < nt) (hm : (!pNone w (250 + lv) (250 + lv)) = true) : Fh l y_L_least (wkW y_L_least b_L_least 4 (some .int) [(0, 9, 12, 28), (0, 9, 15, 40)]) rh_least D cls [(cL, .long), (cI, .int)] [.ref (ad 0), .int (nI t), .ref o] (hW ad cL cI nv nb nt nf na lv nm vw vp tw ab am w o fo) (Xh n0 t0) (some (.int (nI 0))) (hW ad cL cI nv nb nt nf na lv nm vw vp tw ab am ((lsS (50 + t * 4) (tw t) (tw t) (oCopy 256 (250 + lv) 1 w, 0)).1) o (vp_updL fo 0 (nI ((lsS (50 + t * 4) (tw t) (tw t) (oCopy 256 (250 + lv) 1 w, 0)).2)).toInt64)) := by
  refine Fh.of (by decide) rfl (Nat.le_of_ble_eq_true rfl) ?_
  intro p e s m below meth c A ls hx hb hml hr hts0 hown hlocks hT hP hK hD hS hA hAe hX hl
  have hts : ∀ w ∈ lw_ok, w.before _ s = true := fun w h => hts0 w (List.mem_cons_of_mem _ h)
  have hown : s.vm.findClass R_L = some m.cls := hown
  have hP : va_P D cls (hW ad cL cI nv nb nt nf na lv nm vw vp tw ab am w o fo) s.heap := hP
  have hl : lv_has ls 4 [(0, .ref (ad 0)), (1, .int (nI t)), (2, .ref o)] := hl
  have hAn : ∀ q, A q → n0 ≤ q := fun q h => by rw [hAe] at h; exact Xh_A hX u uo h
  refine lv_aload_n hx hb d_L_least_0 rfl (lv_at hl 2 rfl) ?_
  refine lv_iconst (v := nI 0) hx hb d_L_least_1 (by decide) ?_
  refine lv_aload_n hx hb d_L_least_2 rfl (lv_at hl 0 rfl) ?_
  refine lv_iload_n hx hb d_L_least_3 rfl (lv_at hl 1 rfl) ?_
  refine fn_V (ws' := (hW ad cL cI nv nb nt nf na lv nm vw vp tw ab am ((lsS (50 + t * 4) (tw t) (tw t) (oCopy 256 (250 + lv) 1 w, 0)).1) o fo)) (w1 := (bsW ad cL cI nv nb nt nf na lv nm vw vp tw ab am ((lsS (50 + t * 4) (tw t) (tw t) (oCopy 256 (250 + lv) 1 w, 0)).1))) (wc := (bsW ad cL cI nv nb nt nf na lv nm vw vp tw ab am w)) (wr := [(o, .inl (cL, 1, .inr (.inl fo)))]) ⟨hx, hb, hml, hown, hts⟩ (c_B_least l D ad cL cI nv nb nt nf na lv nm vw vp tw ab am w hok t ht hm) ⟨callB_of 1 hts (gW wd_485) rfl rfl rfl (hts _ wd_1) (hts _ wd_482) hd_B_least ⟨Nat.le_of_ble_eq_true rfl, Nat.le_of_ble_eq_true rfl⟩, hts _ wd_483, hts _ wd_484⟩ XT_ok (fun _ _ _ => trivial) hK hP hD hS hA 0 0 rfl rfl rfl [0, 1] [0, 1, 2, 3, 4, 5, 6, 7, 8] [9] [1, 2, 3, 4, 5, 6, 7, 8, 9, 0] rfl rfl rfl rfl rfl (by decide) rfl rfl rfl hl.1 rfl (Nat.le_of_ble_eq_true rfl) d_L_least_4 ⟨Nat.zero_le _, Nat.zero_le _⟩ (st1 := [.int (nI ((lsS (50 + t * 4) (tw t) (tw t) (oCopy 256 (250 + lv) 1 w, 0)).2)), .int (nI 0), .ref o]) rfl (fun H locs hP hD hS => ?_)
  refine lv_i2l hx hb d_L_least_7 rfl ?_
  refine n_last hx hb hK hP hD hS 9 0 rfl rfl (i := 0) (by omega) (by omega) rfl d_L_least_8 (ws' := (hW ad cL cI nv nb nt nf na lv nm vw vp tw ab am ((lsS (50 + t * 4) (tw t) (tw t) (oCopy 256 (250 + lv) 1 w, 0)).1) o (vp_updL fo 0 ((nI ((lsS (50 + t * 4) (tw t) (tw t) (oCopy 256 (250 + lv) 1 w, 0)).2)).toInt64)))) rfl (fun H locs hP hD hS => ?_)
  refine lv_goto (tgt := 18) hx hb d_L_least_9 (by decide) ?_
  refine lv_iconst (v := nI 0) hx hb d_L_least_18 (by decide) ?_
  exact fh_iret hx hb hr hlocks hAe hK hP hD hS rfl (Nat.zero_le _) (Nat.zero_le _) d_L_least_19
set_option maxHeartbeats 4000000 in
set_option maxRecDepth 100000 in
theorem h_blame_0 (l : Launch) (D : va_G) (hst : l.stackTraces = false) (n0 t0 : Nat) (ad : Nat → Nat) (cL cI : ClassId) (nv nb nt nf na lv nm : Nat) (vw vp tw ab am : Nat → Nat) (w : Nat → Int64)  (o : Nat) (fo : Nat → Int64) (hok : Bok nv nb nt nf na lv nm vw vp tw ab am) (u : ∀ i, i < 9 → n0 ≤ ad i) (uo : n0 ≤ o) (hm : pCan am lv nm (2 ^ nm - 1) w = false) : Fh l y_L_blame (wkW y_L_blame b_L_blame 3 (some .int) [(0, 8, 11, 15)]) rh_blame D cls [(cL, .long), (cI, .int)] [.ref (ad 0), .ref o] (hW ad cL cI nv nb nt nf na lv nm vw vp tw ab am w o fo) (Xh n0 t0) (some (.int (nI 0))) (hW ad cL cI nv nb nt nf na lv nm vw vp tw ab am ((blS am lv nm nm (wAsm am lv nm (2 ^ nm - 1) w, 2 ^ nm - 1)).1) o (vp_updL fo 0 (nI ((blS am lv nm nm (wAsm am lv nm (2 ^ nm - 1) w, 2 ^ nm - 1)).2)).toInt64)) := by
  refine Fh.of (by decide) rfl (Nat.le_of_ble_eq_true rfl) ?_
  intro p e s m below meth c A ls hx hb hml hr hts0 hown hlocks hT hP hK hD hS hA hAe hX hl
  have hts : ∀ w ∈ lw_ok, w.before _ s = true := fun w h => hts0 w (List.mem_cons_of_mem _ h)
  have hown : s.vm.findClass R_L = some m.cls := hown
  have hP : va_P D cls (hW ad cL cI nv nb nt nf na lv nm vw vp tw ab am w o fo) s.heap := hP
  have hl : lv_has ls 3 [(0, .ref (ad 0)), (1, .ref o)] := hl
  have hAn : ∀ q, A q → n0 ≤ q := fun q h => by rw [hAe] at h; exact Xh_A hX u uo h
  refine lv_aload_n hx hb d_L_blame_0 rfl (lv_at hl 1 rfl) ?_
  refine lv_iconst (v := nI 0) hx hb d_L_blame_1 (by decide) ?_
  refine lv_aload_n hx hb d_L_blame_2 rfl (lv_at hl 0 rfl) ?_
  refine fn_V (ws' := (hW ad cL cI nv nb nt nf na lv nm vw vp tw ab am ((blS am lv nm nm (wAsm am lv nm (2 ^ nm - 1) w, 2 ^ nm - 1)).1) o fo)) (w1 := (bsW ad cL cI nv nb nt nf na lv nm vw vp tw ab am ((blS am lv nm nm (wAsm am lv nm (2 ^ nm - 1) w, 2 ^ nm - 1)).1))) (wc := (bsW ad cL cI nv nb nt nf na lv nm vw vp tw ab am w)) (wr := [(o, .inl (cL, 1, .inr (.inl fo)))]) ⟨hx, hb, hml, hown, hts⟩ (c_B_blame l D ad cL cI nv nb nt nf na lv nm vw vp tw ab am w hok hm) ⟨callB_of 0 hts (gW wd_500) rfl rfl rfl (hts _ wd_1) (hts _ wd_497) hd_B_blame ⟨Nat.le_of_ble_eq_true rfl, Nat.le_of_ble_eq_true rfl⟩, hts _ wd_498, hts _ wd_499⟩ XT_ok (fun _ _ _ => trivial) hK hP hD hS hA 0 0 rfl rfl rfl [0, 1] [0, 1, 2, 3, 4, 5, 6, 7, 8] [9] [1, 2, 3, 4, 5, 6, 7, 8, 9, 0] rfl rfl rfl rfl rfl (by decide) rfl rfl rfl hl.1 rfl (Nat.le_of_ble_eq_true rfl) d_L_blame_3 ⟨Nat.zero_le _, Nat.zero_le _⟩ (st1 := [.int (nI ((blS am lv nm nm (wAsm am lv nm (2 ^ nm - 1) w, 2 ^ nm - 1)).2)), .int (nI 0), .ref o]) rfl (fun H locs hP hD hS => ?_)
  refine lv_i2l hx hb d_L_blame_6 rfl ?_
  refine n_last hx hb hK hP hD hS 9 0 rfl rfl (i := 0) (by omega) (by omega) rfl d_L_blame_7 (ws' := (hW ad cL cI nv nb nt nf na lv nm vw vp tw ab am ((blS am lv nm nm (wAsm am lv nm (2 ^ nm - 1) w, 2 ^ nm - 1)).1) o (vp_updL fo 0 ((nI ((blS am lv nm nm (wAsm am lv nm (2 ^ nm - 1) w, 2 ^ nm - 1)).2)).toInt64)))) rfl (fun H locs hP hD hS => ?_)
  refine lv_goto (tgt := 14) hx hb d_L_blame_8 (by decide) ?_
  refine lv_iconst (v := nI 0) hx hb d_L_blame_14 (by decide) ?_
  exact fh_iret hx hb hr hlocks hAe hK hP hD hS rfl (Nat.zero_le _) (Nat.zero_le _) d_L_blame_15
set_option maxHeartbeats 4000000 in
set_option maxRecDepth 100000 in
theorem h_blame_1 (l : Launch) (D : va_G) (hst : l.stackTraces = false) (n0 t0 : Nat) (ad : Nat → Nat) (cL cI : ClassId) (nv nb nt nf na lv nm : Nat) (vw vp tw ab am : Nat → Nat) (w : Nat → Int64)  (o : Nat) (fo : Nat → Int64) (hok : Bok nv nb nt nf na lv nm vw vp tw ab am) (u : ∀ i, i < 9 → n0 ≤ ad i) (uo : n0 ≤ o) (hm : pCan am lv nm (2 ^ nm - 1) w = true) : Fh l y_L_blame (wkW y_L_blame b_L_blame 3 (some .int) [(0, 8, 11, 15)]) rh_blame D cls [(cL, .long), (cI, .int)] [.ref (ad 0), .ref o] (hW ad cL cI nv nb nt nf na lv nm vw vp tw ab am w o fo) (Xh n0 t0) (some (.int (nI 1))) (hW ad cL cI nv nb nt nf na lv nm vw vp tw ab am (wAsm am lv nm (2 ^ nm - 1) w) o fo) := by
  refine Fh.of (by decide) rfl (Nat.le_of_ble_eq_true rfl) ?_
  intro p e s m below meth c A ls hx hb hml hr hts0 hown hlocks hT hP hK hD hS hA hAe hX hl
  have hts : ∀ w ∈ lw_ok, w.before _ s = true := fun w h => hts0 w (List.mem_cons_of_mem _ h)
  have hown : s.vm.findClass R_L = some m.cls := hown
  have hP : va_P D cls (hW ad cL cI nv nb nt nf na lv nm vw vp tw ab am w o fo) s.heap := hP
  have hl : lv_has ls 3 [(0, .ref (ad 0)), (1, .ref o)] := hl
  have hAn : ∀ q, A q → n0 ≤ q := fun q h => by rw [hAe] at h; exact Xh_A hX u uo h
  refine lv_aload_n hx hb d_L_blame_0 rfl (lv_at hl 1 rfl) ?_
  refine lv_iconst (v := nI 0) hx hb d_L_blame_1 (by decide) ?_
  refine lv_aload_n hx hb d_L_blame_2 rfl (lv_at hl 0 rfl) ?_
  refine ft_V (ws' := (hW ad cL cI nv nb nt nf na lv nm vw vp tw ab am (wAsm am lv nm (2 ^ nm - 1) w) o fo)) (w1 := (bsW ad cL cI nv nb nt nf na lv nm vw vp tw ab am (wAsm am lv nm (2 ^ nm - 1) w))) (wc := (bsW ad cL cI nv nb nt nf na lv nm vw vp tw ab am w)) (wr := [(o, .inl (cL, 1, .inr (.inl fo)))]) ⟨hx, hb, hml, hown, hts⟩ (e_B_blame_1 l D hst n0 ad cL cI nv nb nt nf na lv nm vw vp tw ab am w hok u hm) ⟨callB_of 0 hts (gW wd_500) rfl rfl rfl (hts _ wd_1) (hts _ wd_497) hd_B_blame ⟨Nat.le_of_ble_eq_true rfl, Nat.le_of_ble_eq_true rfl⟩, hts _ wd_498, hts _ wd_499⟩ Ze_ok (Ze_kept hX.2.1 hS hAn) hK hP hD hS hA 0 0 rfl rfl rfl [0, 1] [0, 1, 2, 3, 4, 5, 6, 7, 8] [9] [1, 2, 3, 4, 5, 6, 7, 8, 9, 0] rfl rfl rfl rfl rfl (by decide) rfl rfl rfl hl.1 rfl (Nat.le_of_ble_eq_true rfl) d_L_blame_3 ⟨Nat.le_of_ble_eq_true rfl, Nat.le_of_ble_eq_true rfl⟩ (fun xx ce H locs hP hD hS hce hcv hcl => ?_)
  refine vx_catch (own := R_L) (name := X_ISE) hown [] ⟨0, 8, 11, 15⟩ [] hT (fun _ h => absurd h List.not_mem_nil) (by decide) (by decide) (hts _ wd_139) (cast_ISE hX.2.1.2.2.2) hce hcv hcl ?_
  refine lv_astore_n (lv' := [(2, .ref xx), (0, .ref (ad 0)), (1, .ref o)]) hx hb d_L_blame_11 rfl hl (by decide) rfl (fun ls hl => ?_)
  refine lv_iconst (v := nI 1) hx hb d_L_blame_12 (by decide) ?_
  exact fh_iret hx hb hr hlocks hAe hK hP hD hS rfl (Nat.le_refl _) (Nat.le_refl _) d_L_blame_13
set_option maxHeartbeats 4000000 in
set_option maxRecDepth 100000 in
theorem h_count_0 (l : Launch) (D : va_G) (hst : l.stackTraces = false) (n0 t0 : Nat) (ad : Nat → Nat) (cL cI : ClassId) (nv nb nt nf na lv nm : Nat) (vw vp tw ab am : Nat → Nat) (w : Nat → Int64)  (o : Nat) (fo : Nat → Int64) (hok : Bok nv nb nt nf na lv nm vw vp tw ab am) (u : ∀ i, i < 9 → n0 ≤ ad i) (uo : n0 ≤ o) (k : Nat) (hk : k < 7) : Fh l y_L_count (wkW y_L_count b_L_count 4 (some .int) [(0, 9, 12, 13)]) rh_count D cls [(cL, .long), (cI, .int)] [.ref (ad 0), .int (nI k), .ref o] (hW ad cL cI nv nb nt nf na lv nm vw vp tw ab am w o fo) (Xh n0 t0) (some (.int (nI 0))) (hW ad cL cI nv nb nt nf na lv nm vw vp tw ab am w o (vp_updL fo 0 (nI (cntF nv nt nf na lv nm nb k)).toInt64)) := by
  refine Fh.of (by decide) rfl (Nat.le_of_ble_eq_true rfl) ?_
  intro p e s m below meth c A ls hx hb hml hr hts0 hown hlocks hT hP hK hD hS hA hAe hX hl
  have hts : ∀ w ∈ lw_ok, w.before _ s = true := fun w h => hts0 w (List.mem_cons_of_mem _ h)
  have hown : s.vm.findClass R_L = some m.cls := hown
  have hP : va_P D cls (hW ad cL cI nv nb nt nf na lv nm vw vp tw ab am w o fo) s.heap := hP
  have hl : lv_has ls 4 [(0, .ref (ad 0)), (1, .int (nI k)), (2, .ref o)] := hl
  have hAn : ∀ q, A q → n0 ≤ q := fun q h => by rw [hAe] at h; exact Xh_A hX u uo h
  refine lv_aload_n hx hb d_L_count_0 rfl (lv_at hl 2 rfl) ?_
  refine lv_iconst (v := nI 0) hx hb d_L_count_1 (by decide) ?_
  refine lv_aload_n hx hb d_L_count_2 rfl (lv_at hl 0 rfl) ?_
  refine lv_iload_n hx hb d_L_count_3 rfl (lv_at hl 1 rfl) ?_
  refine fn_V (ws' := (hW ad cL cI nv nb nt nf na lv nm vw vp tw ab am w o fo)) (w1 := (bsW ad cL cI nv nb nt nf na lv nm vw vp tw ab am w)) (wc := (bsW ad cL cI nv nb nt nf na lv nm vw vp tw ab am w)) (wr := [(o, .inl (cL, 1, .inr (.inl fo)))]) ⟨hx, hb, hml, hown, hts⟩ (c_B_countU l D ad cL cI nv nb nt nf na lv nm vw vp tw ab am w hok k hk) ⟨callB_of 1 hts (gW wd_507) rfl rfl rfl (hts _ wd_1) (hts _ wd_504) hd_B_count ⟨Nat.le_of_ble_eq_true rfl, Nat.le_of_ble_eq_true rfl⟩, hts _ wd_505, hts _ wd_506⟩ XT_ok (fun _ _ _ => trivial) hK hP hD hS hA 0 0 rfl rfl rfl [0, 1] [0, 1, 2, 3, 4, 5, 6, 7, 8] [9] [1, 2, 3, 4, 5, 6, 7, 8, 9, 0] rfl rfl rfl rfl rfl (by decide) rfl rfl rfl hl.1 rfl (Nat.le_of_ble_eq_true rfl) d_L_count_4 ⟨Nat.zero_le _, Nat.zero_le _⟩ (st1 := [.int (nI (cntF nv nt nf na lv nm nb k)), .int (nI 0), .ref o]) rfl (fun H locs hP hD hS => ?_)
  refine lv_i2l hx hb d_L_count_7 rfl ?_
  refine n_last hx hb hK hP hD hS 9 0 rfl rfl (i := 0) (by omega) (by omega) rfl d_L_count_8 (ws' := (hW ad cL cI nv nb nt nf na lv nm vw vp tw ab am w o (vp_updL fo 0 ((nI (cntF nv nt nf na lv nm nb k)).toInt64)))) rfl (fun H locs hP hD hS => ?_)
  refine lv_goto (tgt := 15) hx hb d_L_count_9 (by decide) ?_
  refine lv_iconst (v := nI 0) hx hb d_L_count_15 (by decide) ?_
  exact fh_iret hx hb hr hlocks hAe hK hP hD hS rfl (Nat.zero_le _) (Nat.zero_le _) d_L_count_16
set_option maxHeartbeats 4000000 in
set_option maxRecDepth 100000 in
theorem h_count_1 (l : Launch) (D : va_G) (hst : l.stackTraces = false) (n0 t0 : Nat) (ad : Nat → Nat) (cL cI : ClassId) (nv nb nt nf na lv nm : Nat) (vw vp tw ab am : Nat → Nat) (w : Nat → Int64)  (o : Nat) (fo : Nat → Int64) (hok : Bok nv nb nt nf na lv nm vw vp tw ab am) (u : ∀ i, i < 9 → n0 ≤ ad i) (uo : n0 ≤ o) (x : Int32) (hk : x.toInt < 0 ∨ 6 < x.toInt) : Fh l y_L_count (wkW y_L_count b_L_count 4 (some .int) [(0, 9, 12, 13)]) rh_count D cls [(cL, .long), (cI, .int)] [.ref (ad 0), .int x, .ref o] (hW ad cL cI nv nb nt nf na lv nm vw vp tw ab am w o fo) (Xh n0 t0) (some (.int (nI 1))) (hW ad cL cI nv nb nt nf na lv nm vw vp tw ab am w o fo) := by
  refine Fh.of (by decide) rfl (Nat.le_of_ble_eq_true rfl) ?_
  intro p e s m below meth c A ls hx hb hml hr hts0 hown hlocks hT hP hK hD hS hA hAe hX hl
  have hts : ∀ w ∈ lw_ok, w.before _ s = true := fun w h => hts0 w (List.mem_cons_of_mem _ h)
  have hown : s.vm.findClass R_L = some m.cls := hown
  have hP : va_P D cls (hW ad cL cI nv nb nt nf na lv nm vw vp tw ab am w o fo) s.heap := hP
  have hl : lv_has ls 4 [(0, .ref (ad 0)), (1, .int x), (2, .ref o)] := hl
  have hAn : ∀ q, A q → n0 ≤ q := fun q h => by rw [hAe] at h; exact Xh_A hX u uo h
  refine lv_aload_n hx hb d_L_count_0 rfl (lv_at hl 2 rfl) ?_
  refine lv_iconst (v := nI 0) hx hb d_L_count_1 (by decide) ?_
  refine lv_aload_n hx hb d_L_count_2 rfl (lv_at hl 0 rfl) ?_
  refine lv_iload_n hx hb d_L_count_3 rfl (lv_at hl 1 rfl) ?_
  refine ft_V (ws' := (hW ad cL cI nv nb nt nf na lv nm vw vp tw ab am w o fo)) (w1 := (bsW ad cL cI nv nb nt nf na lv nm vw vp tw ab am w)) (wc := (bsW ad cL cI nv nb nt nf na lv nm vw vp tw ab am w)) (wr := [(o, .inl (cL, 1, .inr (.inl fo)))]) ⟨hx, hb, hml, hown, hts⟩ (e_B_count_1 l D hst n0 ad cL cI nv nb nt nf na lv nm vw vp tw ab am w hok u x hk) ⟨callB_of 1 hts (gW wd_507) rfl rfl rfl (hts _ wd_1) (hts _ wd_504) hd_B_count ⟨Nat.le_of_ble_eq_true rfl, Nat.le_of_ble_eq_true rfl⟩, hts _ wd_505, hts _ wd_506⟩ Ze_ok (Ze_kept hX.2.1 hS hAn) hK hP hD hS hA 0 0 rfl rfl rfl [0, 1] [0, 1, 2, 3, 4, 5, 6, 7, 8] [9] [1, 2, 3, 4, 5, 6, 7, 8, 9, 0] rfl rfl rfl rfl rfl (by decide) rfl rfl rfl hl.1 rfl (Nat.le_of_ble_eq_true rfl) d_L_count_4 ⟨Nat.le_of_ble_eq_true rfl, Nat.le_of_ble_eq_true rfl⟩ (fun xx ce H locs hP hD hS hce hcv hcl => ?_)
  refine vx_catch (own := R_L) (name := X_IAE) hown [] ⟨0, 9, 12, 13⟩ [] hT (fun _ h => absurd h List.not_mem_nil) (by decide) (by decide) (hts _ wd_138) (cast_IAE hX.2.1.2.2.2) hce hcv hcl ?_
  refine lv_astore_n (lv' := [(3, .ref xx), (0, .ref (ad 0)), (1, .int x), (2, .ref o)]) hx hb d_L_count_12 rfl hl (by decide) rfl (fun ls hl => ?_)
  refine lv_iconst (v := nI 1) hx hb d_L_count_13 (by decide) ?_
  exact fh_iret hx hb hr hlocks hAe hK hP hD hS rfl (Nat.le_refl _) (Nat.le_refl _) d_L_count_14
set_option maxHeartbeats 4000000 in
set_option maxRecDepth 100000 in
theorem h_assertion_1 (l : Launch) (D : va_G) (hst : l.stackTraces = false) (n0 t0 : Nat) (ad : Nat → Nat) (cL cI : ClassId) (nv nb nt nf na lv nm : Nat) (vw vp tw ab am : Nat → Nat) (w : Nat → Int64)  (o : Nat) (fo : Nat → Int64) (hok : Bok nv nb nt nf na lv nm vw vp tw ab am) (u : ∀ i, i < 9 → n0 ≤ ad i) (uo : n0 ≤ o) (x : Int32) (hf : hasB x nf = false) : Fh l y_L_assertion (wkW y_L_assertion b_L_assertion 4 (some .int) [(0, 9, 12, 28), (0, 9, 15, 15)]) rh_assertion D cls [(cL, .long), (cI, .int)] [.ref (ad 0), .int x, .ref o] (hW ad cL cI nv nb nt nf na lv nm vw vp tw ab am w o fo) (Xh n0 t0) (some (.int (nI 1))) (hW ad cL cI nv nb nt nf na lv nm vw vp tw ab am w o fo) := by
  refine Fh.of (by decide) rfl (Nat.le_of_ble_eq_true rfl) ?_
  intro p e s m below meth c A ls hx hb hml hr hts0 hown hlocks hT hP hK hD hS hA hAe hX hl
  have hts : ∀ w ∈ lw_ok, w.before _ s = true := fun w h => hts0 w (List.mem_cons_of_mem _ h)
  have hown : s.vm.findClass R_L = some m.cls := hown
  have hP : va_P D cls (hW ad cL cI nv nb nt nf na lv nm vw vp tw ab am w o fo) s.heap := hP
  have hl : lv_has ls 4 [(0, .ref (ad 0)), (1, .int x), (2, .ref o)] := hl
  have hAn : ∀ q, A q → n0 ≤ q := fun q h => by rw [hAe] at h; exact Xh_A hX u uo h
  refine lv_aload_n hx hb d_L_assertion_0 rfl (lv_at hl 2 rfl) ?_
  refine lv_iconst (v := nI 0) hx hb d_L_assertion_1 (by decide) ?_
  refine lv_aload_n hx hb d_L_assertion_2 rfl (lv_at hl 0 rfl) ?_
  refine lv_iload_n hx hb d_L_assertion_3 rfl (lv_at hl 1 rfl) ?_
  refine ft_V (ws' := (hW ad cL cI nv nb nt nf na lv nm vw vp tw ab am w o fo)) (w1 := (bsW ad cL cI nv nb nt nf na lv nm vw vp tw ab am w)) (wc := (bsW ad cL cI nv nb nt nf na lv nm vw vp tw ab am w)) (wr := [(o, .inl (cL, 1, .inr (.inl fo)))]) ⟨hx, hb, hml, hown, hts⟩ (e_B_assertion_1 l D hst n0 ad cL cI nv nb nt nf na lv nm vw vp tw ab am w hok u x hf) ⟨callB_of 1 hts (gW wd_386) rfl rfl rfl (hts _ wd_1) (hts _ wd_383) hd_B_assertion ⟨Nat.le_of_ble_eq_true rfl, Nat.le_of_ble_eq_true rfl⟩, hts _ wd_384, hts _ wd_385⟩ Ze_ok (Ze_kept hX.2.1 hS hAn) hK hP hD hS hA 0 0 rfl rfl rfl [0, 1] [0, 1, 2, 3, 4, 5, 6, 7, 8] [9] [1, 2, 3, 4, 5, 6, 7, 8, 9, 0] rfl rfl rfl rfl rfl (by decide) rfl rfl rfl hl.1 rfl (Nat.le_of_ble_eq_true rfl) d_L_assertion_4 ⟨Nat.le_of_ble_eq_true rfl, Nat.le_of_ble_eq_true rfl⟩ (fun xx ce H locs hP hD hS hce hcv hcl => ?_)
  refine vx_catch (own := R_L) (name := X_NSE) hown [] ⟨0, 9, 12, 28⟩ [⟨0, 9, 15, 15⟩] hT (fun _ h => absurd h List.not_mem_nil) (by decide) (by decide) (hts _ wd_382) (cast_NSE hX.2.1.2.2.2) hce hcv hcl ?_
  refine lv_astore_n (lv' := [(3, .ref xx), (0, .ref (ad 0)), (1, .int x), (2, .ref o)]) hx hb d_L_assertion_12 rfl hl (by decide) rfl (fun ls hl => ?_)
  refine lv_iconst (v := nI 1) hx hb d_L_assertion_13 (by decide) ?_
  exact fh_iret hx hb hr hlocks hAe hK hP hD hS rfl (Nat.le_refl _) (Nat.le_refl _) d_L_assertion_14
set_option maxHeartbeats 4000000 in
set_option maxRecDepth 100000 in
theorem h_assertion_2 (l : Launch) (D : va_G) (hst : l.stackTraces = false) (n0 t0 : Nat) (ad : Nat → Nat) (cL cI : ClassId) (nv nb nt nf na lv nm : Nat) (vw vp tw ab am : Nat → Nat) (w : Nat → Int64)  (o : Nat) (fo : Nat → Int64) (hok : Bok nv nb nt nf na lv nm vw vp tw ab am) (u : ∀ i, i < 9 → n0 ≤ ad i) (uo : n0 ≤ o) (x : Int32) (hf : hasB x nf = true) (hn : 30 ≤ na) : Fh l y_L_assertion (wkW y_L_assertion b_L_assertion 4 (some .int) [(0, 9, 12, 28), (0, 9, 15, 15)]) rh_assertion D cls [(cL, .long), (cI, .int)] [.ref (ad 0), .int x, .ref o] (hW ad cL cI nv nb nt nf na lv nm vw vp tw ab am w o fo) (Xh n0 t0) (some (.int (nI 2))) (hW ad cL cI nv nb nt nf na lv nm vw vp tw ab am w o fo) := by
  refine Fh.of (by decide) rfl (Nat.le_of_ble_eq_true rfl) ?_
  intro p e s m below meth c A ls hx hb hml hr hts0 hown hlocks hT hP hK hD hS hA hAe hX hl
  have hts : ∀ w ∈ lw_ok, w.before _ s = true := fun w h => hts0 w (List.mem_cons_of_mem _ h)
  have hown : s.vm.findClass R_L = some m.cls := hown
  have hP : va_P D cls (hW ad cL cI nv nb nt nf na lv nm vw vp tw ab am w o fo) s.heap := hP
  have hl : lv_has ls 4 [(0, .ref (ad 0)), (1, .int x), (2, .ref o)] := hl
  have hAn : ∀ q, A q → n0 ≤ q := fun q h => by rw [hAe] at h; exact Xh_A hX u uo h
  refine lv_aload_n hx hb d_L_assertion_0 rfl (lv_at hl 2 rfl) ?_
  refine lv_iconst (v := nI 0) hx hb d_L_assertion_1 (by decide) ?_
  refine lv_aload_n hx hb d_L_assertion_2 rfl (lv_at hl 0 rfl) ?_
  refine lv_iload_n hx hb d_L_assertion_3 rfl (lv_at hl 1 rfl) ?_
  refine ft_V (ws' := (hW ad cL cI nv nb nt nf na lv nm vw vp tw ab am w o fo)) (w1 := (bsW ad cL cI nv nb nt nf na lv nm vw vp tw ab am w)) (wc := (bsW ad cL cI nv nb nt nf na lv nm vw vp tw ab am w)) (wr := [(o, .inl (cL, 1, .inr (.inl fo)))]) ⟨hx, hb, hml, hown, hts⟩ (e_B_assertion_2 l D hst n0 ad cL cI nv nb nt nf na lv nm vw vp tw ab am w hok u x hf hn) ⟨callB_of 1 hts (gW wd_386) rfl rfl rfl (hts _ wd_1) (hts _ wd_383) hd_B_assertion ⟨Nat.le_of_ble_eq_true rfl, Nat.le_of_ble_eq_true rfl⟩, hts _ wd_384, hts _ wd_385⟩ Ze_ok (Ze_kept hX.2.1 hS hAn) hK hP hD hS hA 0 0 rfl rfl rfl [0, 1] [0, 1, 2, 3, 4, 5, 6, 7, 8] [9] [1, 2, 3, 4, 5, 6, 7, 8, 9, 0] rfl rfl rfl rfl rfl (by decide) rfl rfl rfl hl.1 rfl (Nat.le_of_ble_eq_true rfl) d_L_assertion_4 ⟨Nat.le_of_ble_eq_true rfl, Nat.le_of_ble_eq_true rfl⟩ (fun xx ce H locs hP hD hS hce hcv hcl => ?_)
  refine vx_catch (own := R_L) (name := X_ISE) hown [⟨0, 9, 12, 28⟩] ⟨0, 9, 15, 15⟩ [] hT (List.forall_mem_cons.mpr ⟨Or.inr ⟨by decide, X_NSE, hts _ wd_382, hX.2.2.2.1⟩, fun _ h => absurd h List.not_mem_nil⟩) (by decide) (by decide) (hts _ wd_139) (cast_ISE hX.2.1.2.2.2) hce hcv hcl ?_
  refine lv_astore_n (lv' := [(3, .ref xx), (0, .ref (ad 0)), (1, .int x), (2, .ref o)]) hx hb d_L_assertion_15 rfl hl (by decide) rfl (fun ls hl => ?_)
  refine lv_iconst (v := nI 2) hx hb d_L_assertion_16 (by decide) ?_
  exact fh_iret hx hb hr hlocks hAe hK hP hD hS rfl (Nat.le_refl _) (Nat.le_refl _) d_L_assertion_17
set_option maxHeartbeats 4000000 in
set_option maxRecDepth 100000 in
theorem h_assume_1 (l : Launch) (D : va_G) (hst : l.stackTraces = false) (n0 t0 : Nat) (ad : Nat → Nat) (cL cI : ClassId) (nv nb nt nf na lv nm : Nat) (vw vp tw ab am : Nat → Nat) (w : Nat → Int64)  (o : Nat) (fo : Nat → Int64) (hok : Bok nv nb nt nf na lv nm vw vp tw ab am) (u : ∀ i, i < 9 → n0 ≤ ad i) (uo : n0 ≤ o) (x : Int32) (hf : hasB x nf = false) : Fh l y_L_assume (wkW y_L_assume b_L_assume 4 (some .int) [(0, 9, 12, 28), (0, 9, 15, 15)]) rh_assume D cls [(cL, .long), (cI, .int)] [.ref (ad 0), .int x, .ref o] (hW ad cL cI nv nb nt nf na lv nm vw vp tw ab am w o fo) (Xh n0 t0) (some (.int (nI 1))) (hW ad cL cI nv nb nt nf na lv nm vw vp tw ab am w o fo) := by
  refine Fh.of (by decide) rfl (Nat.le_of_ble_eq_true rfl) ?_
  intro p e s m below meth c A ls hx hb hml hr hts0 hown hlocks hT hP hK hD hS hA hAe hX hl
  have hts : ∀ w ∈ lw_ok, w.before _ s = true := fun w h => hts0 w (List.mem_cons_of_mem _ h)
  have hown : s.vm.findClass R_L = some m.cls := hown
  have hP : va_P D cls (hW ad cL cI nv nb nt nf na lv nm vw vp tw ab am w o fo) s.heap := hP
  have hl : lv_has ls 4 [(0, .ref (ad 0)), (1, .int x), (2, .ref o)] := hl
  have hAn : ∀ q, A q → n0 ≤ q := fun q h => by rw [hAe] at h; exact Xh_A hX u uo h
  refine lv_aload_n hx hb d_L_assume_0 rfl (lv_at hl 2 rfl) ?_
  refine lv_iconst (v := nI 0) hx hb d_L_assume_1 (by decide) ?_
  refine lv_aload_n hx hb d_L_assume_2 rfl (lv_at hl 0 rfl) ?_
  refine lv_iload_n hx hb d_L_assume_3 rfl (lv_at hl 1 rfl) ?_
  refine ft_V (ws' := (hW ad cL cI nv nb nt nf na lv nm vw vp tw ab am w o fo)) (w1 := (bsW ad cL cI nv nb nt nf na lv nm vw vp tw ab am w)) (wc := (bsW ad cL cI nv nb nt nf na lv nm vw vp tw ab am w)) (wr := [(o, .inl (cL, 1, .inr (.inl fo)))]) ⟨hx, hb, hml, hown, hts⟩ (e_B_assume_1 l D hst n0 ad cL cI nv nb nt nf na lv nm vw vp tw ab am w hok u x hf) ⟨callB_of 1 hts (gW wd_493) rfl rfl rfl (hts _ wd_1) (hts _ wd_490) hd_B_assume ⟨Nat.le_of_ble_eq_true rfl, Nat.le_of_ble_eq_true rfl⟩, hts _ wd_491, hts _ wd_492⟩ Ze_ok (Ze_kept hX.2.1 hS hAn) hK hP hD hS hA 0 0 rfl rfl rfl [0, 1] [0, 1, 2, 3, 4, 5, 6, 7, 8] [9] [1, 2, 3, 4, 5, 6, 7, 8, 9, 0] rfl rfl rfl rfl rfl (by decide) rfl rfl rfl hl.1 rfl (Nat.le_of_ble_eq_true rfl) d_L_assume_4 ⟨Nat.le_of_ble_eq_true rfl, Nat.le_of_ble_eq_true rfl⟩ (fun xx ce H locs hP hD hS hce hcv hcl => ?_)
  refine vx_catch (own := R_L) (name := X_NSE) hown [] ⟨0, 9, 12, 28⟩ [⟨0, 9, 15, 15⟩] hT (fun _ h => absurd h List.not_mem_nil) (by decide) (by decide) (hts _ wd_382) (cast_NSE hX.2.1.2.2.2) hce hcv hcl ?_
  refine lv_astore_n (lv' := [(3, .ref xx), (0, .ref (ad 0)), (1, .int x), (2, .ref o)]) hx hb d_L_assume_12 rfl hl (by decide) rfl (fun ls hl => ?_)
  refine lv_iconst (v := nI 1) hx hb d_L_assume_13 (by decide) ?_
  exact fh_iret hx hb hr hlocks hAe hK hP hD hS rfl (Nat.le_refl _) (Nat.le_refl _) d_L_assume_14
set_option maxHeartbeats 4000000 in
set_option maxRecDepth 100000 in
theorem h_assume_2 (l : Launch) (D : va_G) (hst : l.stackTraces = false) (n0 t0 : Nat) (ad : Nat → Nat) (cL cI : ClassId) (nv nb nt nf na lv nm : Nat) (vw vp tw ab am : Nat → Nat) (w : Nat → Int64)  (o : Nat) (fo : Nat → Int64) (hok : Bok nv nb nt nf na lv nm vw vp tw ab am) (u : ∀ i, i < 9 → n0 ≤ ad i) (uo : n0 ≤ o) (x : Int32) (hf : hasB x nf = true) (hn : 8 ≤ nm) : Fh l y_L_assume (wkW y_L_assume b_L_assume 4 (some .int) [(0, 9, 12, 28), (0, 9, 15, 15)]) rh_assume D cls [(cL, .long), (cI, .int)] [.ref (ad 0), .int x, .ref o] (hW ad cL cI nv nb nt nf na lv nm vw vp tw ab am w o fo) (Xh n0 t0) (some (.int (nI 2))) (hW ad cL cI nv nb nt nf na lv nm vw vp tw ab am w o fo) := by
  refine Fh.of (by decide) rfl (Nat.le_of_ble_eq_true rfl) ?_
  intro p e s m below meth c A ls hx hb hml hr hts0 hown hlocks hT hP hK hD hS hA hAe hX hl
  have hts : ∀ w ∈ lw_ok, w.before _ s = true := fun w h => hts0 w (List.mem_cons_of_mem _ h)
  have hown : s.vm.findClass R_L = some m.cls := hown
  have hP : va_P D cls (hW ad cL cI nv nb nt nf na lv nm vw vp tw ab am w o fo) s.heap := hP
  have hl : lv_has ls 4 [(0, .ref (ad 0)), (1, .int x), (2, .ref o)] := hl
  have hAn : ∀ q, A q → n0 ≤ q := fun q h => by rw [hAe] at h; exact Xh_A hX u uo h
  refine lv_aload_n hx hb d_L_assume_0 rfl (lv_at hl 2 rfl) ?_
  refine lv_iconst (v := nI 0) hx hb d_L_assume_1 (by decide) ?_
  refine lv_aload_n hx hb d_L_assume_2 rfl (lv_at hl 0 rfl) ?_
  refine lv_iload_n hx hb d_L_assume_3 rfl (lv_at hl 1 rfl) ?_
  refine ft_V (ws' := (hW ad cL cI nv nb nt nf na lv nm vw vp tw ab am w o fo)) (w1 := (bsW ad cL cI nv nb nt nf na lv nm vw vp tw ab am w)) (wc := (bsW ad cL cI nv nb nt nf na lv nm vw vp tw ab am w)) (wr := [(o, .inl (cL, 1, .inr (.inl fo)))]) ⟨hx, hb, hml, hown, hts⟩ (e_B_assume_2 l D hst n0 ad cL cI nv nb nt nf na lv nm vw vp tw ab am w hok u x hf hn) ⟨callB_of 1 hts (gW wd_493) rfl rfl rfl (hts _ wd_1) (hts _ wd_490) hd_B_assume ⟨Nat.le_of_ble_eq_true rfl, Nat.le_of_ble_eq_true rfl⟩, hts _ wd_491, hts _ wd_492⟩ Ze_ok (Ze_kept hX.2.1 hS hAn) hK hP hD hS hA 0 0 rfl rfl rfl [0, 1] [0, 1, 2, 3, 4, 5, 6, 7, 8] [9] [1, 2, 3, 4, 5, 6, 7, 8, 9, 0] rfl rfl rfl rfl rfl (by decide) rfl rfl rfl hl.1 rfl (Nat.le_of_ble_eq_true rfl) d_L_assume_4 ⟨Nat.le_of_ble_eq_true rfl, Nat.le_of_ble_eq_true rfl⟩ (fun xx ce H locs hP hD hS hce hcv hcl => ?_)
  refine vx_catch (own := R_L) (name := X_ISE) hown [⟨0, 9, 12, 28⟩] ⟨0, 9, 15, 15⟩ [] hT (List.forall_mem_cons.mpr ⟨Or.inr ⟨by decide, X_NSE, hts _ wd_382, hX.2.2.2.1⟩, fun _ h => absurd h List.not_mem_nil⟩) (by decide) (by decide) (hts _ wd_139) (cast_ISE hX.2.1.2.2.2) hce hcv hcl ?_
  refine lv_astore_n (lv' := [(3, .ref xx), (0, .ref (ad 0)), (1, .int x), (2, .ref o)]) hx hb d_L_assume_15 rfl hl (by decide) rfl (fun ls hl => ?_)
  refine lv_iconst (v := nI 2) hx hb d_L_assume_16 (by decide) ?_
  exact fh_iret hx hb hr hlocks hAe hK hP hD hS rfl (Nat.le_refl _) (Nat.le_refl _) d_L_assume_17
set_option maxHeartbeats 4000000 in
set_option maxRecDepth 100000 in
theorem h_value_1 (l : Launch) (D : va_G) (hst : l.stackTraces = false) (n0 t0 : Nat) (ad : Nat → Nat) (cL cI : ClassId) (nv nb nt nf na lv nm : Nat) (vw vp tw ab am : Nat → Nat) (w : Nat → Int64)  (o : Nat) (fo : Nat → Int64) (hok : Bok nv nb nt nf na lv nm vw vp tw ab am) (u : ∀ i, i < 9 → n0 ≤ ad i) (uo : n0 ≤ o) (x : Int32) (hf : hasB x nv = false) : Fh l y_L_value (wkW y_L_value b_L_value 4 (some .int) [(0, 9, 12, 28), (0, 9, 15, 40)]) rh_value D cls [(cL, .long), (cI, .int)] [.ref (ad 0), .int x, .ref o] (hW ad cL cI nv nb nt nf na lv nm vw vp tw ab am w o fo) (Xh n0 t0) (some (.int (nI 1))) (hW ad cL cI nv nb nt nf na lv nm vw vp tw ab am w o fo) := by
  refine Fh.of (by decide) rfl (Nat.le_of_ble_eq_true rfl) ?_
  intro p e s m below meth c A ls hx hb hml hr hts0 hown hlocks hT hP hK hD hS hA hAe hX hl
  have hts : ∀ w ∈ lw_ok, w.before _ s = true := fun w h => hts0 w (List.mem_cons_of_mem _ h)
  have hown : s.vm.findClass R_L = some m.cls := hown
  have hP : va_P D cls (hW ad cL cI nv nb nt nf na lv nm vw vp tw ab am w o fo) s.heap := hP
  have hl : lv_has ls 4 [(0, .ref (ad 0)), (1, .int x), (2, .ref o)] := hl
  have hAn : ∀ q, A q → n0 ≤ q := fun q h => by rw [hAe] at h; exact Xh_A hX u uo h
  refine lv_aload_n hx hb d_L_value_0 rfl (lv_at hl 2 rfl) ?_
  refine lv_iconst (v := nI 0) hx hb d_L_value_1 (by decide) ?_
  refine lv_aload_n hx hb d_L_value_2 rfl (lv_at hl 0 rfl) ?_
  refine lv_iload_n hx hb d_L_value_3 rfl (lv_at hl 1 rfl) ?_
  refine ft_V (ws' := (hW ad cL cI nv nb nt nf na lv nm vw vp tw ab am w o fo)) (w1 := (bsW ad cL cI nv nb nt nf na lv nm vw vp tw ab am w)) (wc := (bsW ad cL cI nv nb nt nf na lv nm vw vp tw ab am w)) (wr := [(o, .inl (cL, 1, .inr (.inl fo)))]) ⟨hx, hb, hml, hown, hts⟩ (e_B_value_1 l D hst n0 ad cL cI nv nb nt nf na lv nm vw vp tw ab am w hok u x hf) ⟨callB_of 1 hts (gW wd_423) rfl rfl rfl (hts _ wd_1) (hts _ wd_420) hd_B_value ⟨Nat.le_of_ble_eq_true rfl, Nat.le_of_ble_eq_true rfl⟩, hts _ wd_421, hts _ wd_422⟩ Ze_ok (Ze_kept hX.2.1 hS hAn) hK hP hD hS hA 0 0 rfl rfl rfl [0, 1] [0, 1, 2, 3, 4, 5, 6, 7, 8] [9] [1, 2, 3, 4, 5, 6, 7, 8, 9, 0] rfl rfl rfl rfl rfl (by decide) rfl rfl rfl hl.1 rfl (Nat.le_of_ble_eq_true rfl) d_L_value_4 ⟨Nat.le_of_ble_eq_true rfl, Nat.le_of_ble_eq_true rfl⟩ (fun xx ce H locs hP hD hS hce hcv hcl => ?_)
  refine vx_catch (own := R_L) (name := X_NSE) hown [] ⟨0, 9, 12, 28⟩ [⟨0, 9, 15, 40⟩] hT (fun _ h => absurd h List.not_mem_nil) (by decide) (by decide) (hts _ wd_382) (cast_NSE hX.2.1.2.2.2) hce hcv hcl ?_
  refine lv_astore_n (lv' := [(3, .ref xx), (0, .ref (ad 0)), (1, .int x), (2, .ref o)]) hx hb d_L_value_12 rfl hl (by decide) rfl (fun ls hl => ?_)
  refine lv_iconst (v := nI 1) hx hb d_L_value_13 (by decide) ?_
  exact fh_iret hx hb hr hlocks hAe hK hP hD hS rfl (Nat.le_refl _) (Nat.le_refl _) d_L_value_14
set_option maxHeartbeats 4000000 in
set_option maxRecDepth 100000 in
theorem h_valueOf_1 (l : Launch) (D : va_G) (hst : l.stackTraces = false) (n0 t0 : Nat) (ad : Nat → Nat) (cL cI : ClassId) (nv nb nt nf na lv nm : Nat) (vw vp tw ab am : Nat → Nat) (w : Nat → Int64)  (o : Nat) (fo : Nat → Int64) (hok : Bok nv nb nt nf na lv nm vw vp tw ab am) (u : ∀ i, i < 9 → n0 ≤ ad i) (uo : n0 ≤ o) (x : Int32) (hf : hasB x nt = false) : Fh l y_L_valueOf (wkW y_L_valueOf b_L_valueOf 4 (some .int) [(0, 9, 12, 28), (0, 9, 15, 40)]) rh_valueOf D cls [(cL, .long), (cI, .int)] [.ref (ad 0), .int x, .ref o] (hW ad cL cI nv nb nt nf na lv nm vw vp tw ab am w o fo) (Xh n0 t0) (some (.int (nI 1))) (hW ad cL cI nv nb nt nf na lv nm vw vp tw ab am w o fo) := by
  refine Fh.of (by decide) rfl (Nat.le_of_ble_eq_true rfl) ?_
  intro p e s m below meth c A ls hx hb hml hr hts0 hown hlocks hT hP hK hD hS hA hAe hX hl
  have hts : ∀ w ∈ lw_ok, w.before _ s = true := fun w h => hts0 w (List.mem_cons_of_mem _ h)
  have hown : s.vm.findClass R_L = some m.cls := hown
  have hP : va_P D cls (hW ad cL cI nv nb nt nf na lv nm vw vp tw ab am w o fo) s.heap := hP
  have hl : lv_has ls 4 [(0, .ref (ad 0)), (1, .int x), (2, .ref o)] := hl
  have hAn : ∀ q, A q → n0 ≤ q := fun q h => by rw [hAe] at h; exact Xh_A hX u uo h
  refine lv_aload_n hx hb d_L_valueOf_0 rfl (lv_at hl 2 rfl) ?_
  refine lv_iconst (v := nI 0) hx hb d_L_valueOf_1 (by decide) ?_
  refine lv_aload_n hx hb d_L_valueOf_2 rfl (lv_at hl 0 rfl) ?_
  refine lv_iload_n hx hb d_L_valueOf_3 rfl (lv_at hl 1 rfl) ?_
  refine ft_V (ws' := (hW ad cL cI nv nb nt nf na lv nm vw vp tw ab am w o fo)) (w1 := (bsW ad cL cI nv nb nt nf na lv nm vw vp tw ab am w)) (wc := (bsW ad cL cI nv nb nt nf na lv nm vw vp tw ab am w)) (wr := [(o, .inl (cL, 1, .inr (.inl fo)))]) ⟨hx, hb, hml, hown, hts⟩ (e_B_valueOf_1 l D hst n0 ad cL cI nv nb nt nf na lv nm vw vp tw ab am w hok u x hf) ⟨callB_of 1 hts (gW wd_452) rfl rfl rfl (hts _ wd_1) (hts _ wd_449) hd_B_valueOf ⟨Nat.le_of_ble_eq_true rfl, Nat.le_of_ble_eq_true rfl⟩, hts _ wd_450, hts _ wd_451⟩ Ze_ok (Ze_kept hX.2.1 hS hAn) hK hP hD hS hA 0 0 rfl rfl rfl [0, 1] [0, 1, 2, 3, 4, 5, 6, 7, 8] [9] [1, 2, 3, 4, 5, 6, 7, 8, 9, 0] rfl rfl rfl rfl rfl (by decide) rfl rfl rfl hl.1 rfl (Nat.le_of_ble_eq_true rfl) d_L_valueOf_4 ⟨Nat.le_of_ble_eq_true rfl, Nat.le_of_ble_eq_true rfl⟩ (fun xx ce H locs hP hD hS hce hcv hcl => ?_)
  refine vx_catch (own := R_L) (name := X_NSE) hown [] ⟨0, 9, 12, 28⟩ [⟨0, 9, 15, 40⟩] hT (fun _ h => absurd h List.not_mem_nil) (by decide) (by decide) (hts _ wd_382) (cast_NSE hX.2.1.2.2.2) hce hcv hcl ?_
  refine lv_astore_n (lv' := [(3, .ref xx), (0, .ref (ad 0)), (1, .int x), (2, .ref o)]) hx hb d_L_valueOf_12 rfl hl (by decide) rfl (fun ls hl => ?_)
  refine lv_iconst (v := nI 1) hx hb d_L_valueOf_13 (by decide) ?_
  exact fh_iret hx hb hr hlocks hAe hK hP hD hS rfl (Nat.le_refl _) (Nat.le_refl _) d_L_valueOf_14
set_option maxHeartbeats 4000000 in
set_option maxRecDepth 100000 in
theorem h_entailed_1 (l : Launch) (D : va_G) (hst : l.stackTraces = false) (n0 t0 : Nat) (ad : Nat → Nat) (cL cI : ClassId) (nv nb nt nf na lv nm : Nat) (vw vp tw ab am : Nat → Nat) (w : Nat → Int64)  (o : Nat) (fo : Nat → Int64) (hok : Bok nv nb nt nf na lv nm vw vp tw ab am) (u : ∀ i, i < 9 → n0 ≤ ad i) (uo : n0 ≤ o) (x : Int32) (hf : hasB x nf = false) : Fh l y_L_entailed (wkW y_L_entailed b_L_entailed 4 (some .int) [(0, 9, 12, 28), (0, 9, 15, 40)]) rh_entailed D cls [(cL, .long), (cI, .int)] [.ref (ad 0), .int x, .ref o] (hW ad cL cI nv nb nt nf na lv nm vw vp tw ab am w o fo) (Xh n0 t0) (some (.int (nI 1))) (hW ad cL cI nv nb nt nf na lv nm vw vp tw ab am w o fo) := by
  refine Fh.of (by decide) rfl (Nat.le_of_ble_eq_true rfl) ?_
  intro p e s m below meth c A ls hx hb hml hr hts0 hown hlocks hT hP hK hD hS hA hAe hX hl
  have hts : ∀ w ∈ lw_ok, w.before _ s = true := fun w h => hts0 w (List.mem_cons_of_mem _ h)
  have hown : s.vm.findClass R_L = some m.cls := hown
  have hP : va_P D cls (hW ad cL cI nv nb nt nf na lv nm vw vp tw ab am w o fo) s.heap := hP
  have hl : lv_has ls 4 [(0, .ref (ad 0)), (1, .int x), (2, .ref o)] := hl
  have hAn : ∀ q, A q → n0 ≤ q := fun q h => by rw [hAe] at h; exact Xh_A hX u uo h
  refine lv_aload_n hx hb d_L_entailed_0 rfl (lv_at hl 2 rfl) ?_
  refine lv_iconst (v := nI 0) hx hb d_L_entailed_1 (by decide) ?_
  refine lv_aload_n hx hb d_L_entailed_2 rfl (lv_at hl 0 rfl) ?_
  refine lv_iload_n hx hb d_L_entailed_3 rfl (lv_at hl 1 rfl) ?_
  refine ft_V (ws' := (hW ad cL cI nv nb nt nf na lv nm vw vp tw ab am w o fo)) (w1 := (bsW ad cL cI nv nb nt nf na lv nm vw vp tw ab am w)) (wc := (bsW ad cL cI nv nb nt nf na lv nm vw vp tw ab am w)) (wr := [(o, .inl (cL, 1, .inr (.inl fo)))]) ⟨hx, hb, hml, hown, hts⟩ (e_B_entailed_1 l D hst n0 ad cL cI nv nb nt nf na lv nm vw vp tw ab am w hok u x hf) ⟨callB_of 1 hts (gW wd_463) rfl rfl rfl (hts _ wd_1) (hts _ wd_460) hd_B_entailed ⟨Nat.le_of_ble_eq_true rfl, Nat.le_of_ble_eq_true rfl⟩, hts _ wd_461, hts _ wd_462⟩ Ze_ok (Ze_kept hX.2.1 hS hAn) hK hP hD hS hA 0 0 rfl rfl rfl [0, 1] [0, 1, 2, 3, 4, 5, 6, 7, 8] [9] [1, 2, 3, 4, 5, 6, 7, 8, 9, 0] rfl rfl rfl rfl rfl (by decide) rfl rfl rfl hl.1 rfl (Nat.le_of_ble_eq_true rfl) d_L_entailed_4 ⟨Nat.le_of_ble_eq_true rfl, Nat.le_of_ble_eq_true rfl⟩ (fun xx ce H locs hP hD hS hce hcv hcl => ?_)
  refine vx_catch (own := R_L) (name := X_NSE) hown [] ⟨0, 9, 12, 28⟩ [⟨0, 9, 15, 40⟩] hT (fun _ h => absurd h List.not_mem_nil) (by decide) (by decide) (hts _ wd_382) (cast_NSE hX.2.1.2.2.2) hce hcv hcl ?_
  refine lv_astore_n (lv' := [(3, .ref xx), (0, .ref (ad 0)), (1, .int x), (2, .ref o)]) hx hb d_L_entailed_12 rfl hl (by decide) rfl (fun ls hl => ?_)
  refine lv_iconst (v := nI 1) hx hb d_L_entailed_13 (by decide) ?_
  exact fh_iret hx hb hr hlocks hAe hK hP hD hS rfl (Nat.le_refl _) (Nat.le_refl _) d_L_entailed_14
set_option maxHeartbeats 4000000 in
set_option maxRecDepth 100000 in
theorem h_fixed_1 (l : Launch) (D : va_G) (hst : l.stackTraces = false) (n0 t0 : Nat) (ad : Nat → Nat) (cL cI : ClassId) (nv nb nt nf na lv nm : Nat) (vw vp tw ab am : Nat → Nat) (w : Nat → Int64)  (o : Nat) (fo : Nat → Int64) (hok : Bok nv nb nt nf na lv nm vw vp tw ab am) (u : ∀ i, i < 9 → n0 ≤ ad i) (uo : n0 ≤ o) (x : Int32) (hf : hasB x nv = false) : Fh l y_L_fixed (wkW y_L_fixed b_L_fixed 4 (some .int) [(0, 9, 12, 28), (0, 9, 15, 40)]) rh_fixed D cls [(cL, .long), (cI, .int)] [.ref (ad 0), .int x, .ref o] (hW ad cL cI nv nb nt nf na lv nm vw vp tw ab am w o fo) (Xh n0 t0) (some (.int (nI 1))) (hW ad cL cI nv nb nt nf na lv nm vw vp tw ab am w o fo) := by
  refine Fh.of (by decide) rfl (Nat.le_of_ble_eq_true rfl) ?_
  intro p e s m below meth c A ls hx hb hml hr hts0 hown hlocks hT hP hK hD hS hA hAe hX hl
  have hts : ∀ w ∈ lw_ok, w.before _ s = true := fun w h => hts0 w (List.mem_cons_of_mem _ h)
  have hown : s.vm.findClass R_L = some m.cls := hown
  have hP : va_P D cls (hW ad cL cI nv nb nt nf na lv nm vw vp tw ab am w o fo) s.heap := hP
  have hl : lv_has ls 4 [(0, .ref (ad 0)), (1, .int x), (2, .ref o)] := hl
  have hAn : ∀ q, A q → n0 ≤ q := fun q h => by rw [hAe] at h; exact Xh_A hX u uo h
  refine lv_aload_n hx hb d_L_fixed_0 rfl (lv_at hl 2 rfl) ?_
  refine lv_iconst (v := nI 0) hx hb d_L_fixed_1 (by decide) ?_
  refine lv_aload_n hx hb d_L_fixed_2 rfl (lv_at hl 0 rfl) ?_
  refine lv_iload_n hx hb d_L_fixed_3 rfl (lv_at hl 1 rfl) ?_
  refine ft_V (ws' := (hW ad cL cI nv nb nt nf na lv nm vw vp tw ab am w o fo)) (w1 := (bsW ad cL cI nv nb nt nf na lv nm vw vp tw ab am w)) (wc := (bsW ad cL cI nv nb nt nf na lv nm vw vp tw ab am w)) (wr := [(o, .inl (cL, 1, .inr (.inl fo)))]) ⟨hx, hb, hml, hown, hts⟩ (e_B_fixed_1 l D hst n0 ad cL cI nv nb nt nf na lv nm vw vp tw ab am w hok u x hf) ⟨callB_of 1 hts (gW wd_478) rfl rfl rfl (hts _ wd_1) (hts _ wd_475) hd_B_fixed ⟨Nat.le_of_ble_eq_true rfl, Nat.le_of_ble_eq_true rfl⟩, hts _ wd_476, hts _ wd_477⟩ Ze_ok (Ze_kept hX.2.1 hS hAn) hK hP hD hS hA 0 0 rfl rfl rfl [0, 1] [0, 1, 2, 3, 4, 5, 6, 7, 8] [9] [1, 2, 3, 4, 5, 6, 7, 8, 9, 0] rfl rfl rfl rfl rfl (by decide) rfl rfl rfl hl.1 rfl (Nat.le_of_ble_eq_true rfl) d_L_fixed_4 ⟨Nat.le_of_ble_eq_true rfl, Nat.le_of_ble_eq_true rfl⟩ (fun xx ce H locs hP hD hS hce hcv hcl => ?_)
  refine vx_catch (own := R_L) (name := X_NSE) hown [] ⟨0, 9, 12, 28⟩ [⟨0, 9, 15, 40⟩] hT (fun _ h => absurd h List.not_mem_nil) (by decide) (by decide) (hts _ wd_382) (cast_NSE hX.2.1.2.2.2) hce hcv hcl ?_
  refine lv_astore_n (lv' := [(3, .ref xx), (0, .ref (ad 0)), (1, .int x), (2, .ref o)]) hx hb d_L_fixed_12 rfl hl (by decide) rfl (fun ls hl => ?_)
  refine lv_iconst (v := nI 1) hx hb d_L_fixed_13 (by decide) ?_
  exact fh_iret hx hb hr hlocks hAe hK hP hD hS rfl (Nat.le_refl _) (Nat.le_refl _) d_L_fixed_14
set_option maxHeartbeats 4000000 in
set_option maxRecDepth 100000 in
theorem h_least_1 (l : Launch) (D : va_G) (hst : l.stackTraces = false) (n0 t0 : Nat) (ad : Nat → Nat) (cL cI : ClassId) (nv nb nt nf na lv nm : Nat) (vw vp tw ab am : Nat → Nat) (w : Nat → Int64)  (o : Nat) (fo : Nat → Int64) (hok : Bok nv nb nt nf na lv nm vw vp tw ab am) (u : ∀ i, i < 9 → n0 ≤ ad i) (uo : n0 ≤ o) (x : Int32) (hf : hasB x nt = false) : Fh l y_L_least (wkW y_L_least b_L_least 4 (some .int) [(0, 9, 12, 28), (0, 9, 15, 40)]) rh_least D cls [(cL, .long), (cI, .int)] [.ref (ad 0), .int x, .ref o] (hW ad cL cI nv nb nt nf na lv nm vw vp tw ab am w o fo) (Xh n0 t0) (some (.int (nI 1))) (hW ad cL cI nv nb nt nf na lv nm vw vp tw ab am w o fo) := by
  refine Fh.of (by decide) rfl (Nat.le_of_ble_eq_true rfl) ?_
  intro p e s m below meth c A ls hx hb hml hr hts0 hown hlocks hT hP hK hD hS hA hAe hX hl
  have hts : ∀ w ∈ lw_ok, w.before _ s = true := fun w h => hts0 w (List.mem_cons_of_mem _ h)
  have hown : s.vm.findClass R_L = some m.cls := hown
  have hP : va_P D cls (hW ad cL cI nv nb nt nf na lv nm vw vp tw ab am w o fo) s.heap := hP
  have hl : lv_has ls 4 [(0, .ref (ad 0)), (1, .int x), (2, .ref o)] := hl
  have hAn : ∀ q, A q → n0 ≤ q := fun q h => by rw [hAe] at h; exact Xh_A hX u uo h
  refine lv_aload_n hx hb d_L_least_0 rfl (lv_at hl 2 rfl) ?_
  refine lv_iconst (v := nI 0) hx hb d_L_least_1 (by decide) ?_
  refine lv_aload_n hx hb d_L_least_2 rfl (lv_at hl 0 rfl) ?_
  refine lv_iload_n hx hb d_L_least_3 rfl (lv_at hl 1 rfl) ?_
  refine ft_V (ws' := (hW ad cL cI nv nb nt nf na lv nm vw vp tw ab am w o fo)) (w1 := (bsW ad cL cI nv nb nt nf na lv nm vw vp tw ab am w)) (wc := (bsW ad cL cI nv nb nt nf na lv nm vw vp tw ab am w)) (wr := [(o, .inl (cL, 1, .inr (.inl fo)))]) ⟨hx, hb, hml, hown, hts⟩ (e_B_least_1 l D hst n0 ad cL cI nv nb nt nf na lv nm vw vp tw ab am w hok u x hf) ⟨callB_of 1 hts (gW wd_485) rfl rfl rfl (hts _ wd_1) (hts _ wd_482) hd_B_least ⟨Nat.le_of_ble_eq_true rfl, Nat.le_of_ble_eq_true rfl⟩, hts _ wd_483, hts _ wd_484⟩ Ze_ok (Ze_kept hX.2.1 hS hAn) hK hP hD hS hA 0 0 rfl rfl rfl [0, 1] [0, 1, 2, 3, 4, 5, 6, 7, 8] [9] [1, 2, 3, 4, 5, 6, 7, 8, 9, 0] rfl rfl rfl rfl rfl (by decide) rfl rfl rfl hl.1 rfl (Nat.le_of_ble_eq_true rfl) d_L_least_4 ⟨Nat.le_of_ble_eq_true rfl, Nat.le_of_ble_eq_true rfl⟩ (fun xx ce H locs hP hD hS hce hcv hcl => ?_)
  refine vx_catch (own := R_L) (name := X_NSE) hown [] ⟨0, 9, 12, 28⟩ [⟨0, 9, 15, 40⟩] hT (fun _ h => absurd h List.not_mem_nil) (by decide) (by decide) (hts _ wd_382) (cast_NSE hX.2.1.2.2.2) hce hcv hcl ?_
  refine lv_astore_n (lv' := [(3, .ref xx), (0, .ref (ad 0)), (1, .int x), (2, .ref o)]) hx hb d_L_least_12 rfl hl (by decide) rfl (fun ls hl => ?_)
  refine lv_iconst (v := nI 1) hx hb d_L_least_13 (by decide) ?_
  exact fh_iret hx hb hr hlocks hAe hK hP hD hS rfl (Nat.le_refl _) (Nat.le_refl _) d_L_least_14
set_option maxHeartbeats 4000000 in
set_option maxRecDepth 100000 in
theorem h_value_2 (l : Launch) (D : va_G) (hst : l.stackTraces = false) (n0 t0 : Nat) (ad : Nat → Nat) (cL cI : ClassId) (nv nb nt nf na lv nm : Nat) (vw vp tw ab am : Nat → Nat) (w : Nat → Int64)  (o : Nat) (fo : Nat → Int64) (hok : Bok nv nb nt nf na lv nm vw vp tw ab am) (u : ∀ i, i < 9 → n0 ≤ ad i) (uo : n0 ≤ o) (x : Int32) (hf : hasB x nv = true) (hm : (!pNone w (250 + lv) (250 + lv)) = false) : Fh l y_L_value (wkW y_L_value b_L_value 4 (some .int) [(0, 9, 12, 28), (0, 9, 15, 40)]) rh_value D cls [(cL, .long), (cI, .int)] [.ref (ad 0), .int x, .ref o] (hW ad cL cI nv nb nt nf na lv nm vw vp tw ab am w o fo) (Xh n0 t0) (some (.int (nI 2))) (hW ad cL cI nv nb nt nf na lv nm vw vp tw ab am w o fo) := by
  refine Fh.of (by decide) rfl (Nat.le_of_ble_eq_true rfl) ?_
  intro p e s m below meth c A ls hx hb hml hr hts0 hown hlocks hT hP hK hD hS hA hAe hX hl
  have hts : ∀ w ∈ lw_ok, w.before _ s = true := fun w h => hts0 w (List.mem_cons_of_mem _ h)
  have hown : s.vm.findClass R_L = some m.cls := hown
  have hP : va_P D cls (hW ad cL cI nv nb nt nf na lv nm vw vp tw ab am w o fo) s.heap := hP
  have hl : lv_has ls 4 [(0, .ref (ad 0)), (1, .int x), (2, .ref o)] := hl
  have hAn : ∀ q, A q → n0 ≤ q := fun q h => by rw [hAe] at h; exact Xh_A hX u uo h
  refine lv_aload_n hx hb d_L_value_0 rfl (lv_at hl 2 rfl) ?_
  refine lv_iconst (v := nI 0) hx hb d_L_value_1 (by decide) ?_
  refine lv_aload_n hx hb d_L_value_2 rfl (lv_at hl 0 rfl) ?_
  refine lv_iload_n hx hb d_L_value_3 rfl (lv_at hl 1 rfl) ?_
  refine ft_V (ws' := (hW ad cL cI nv nb nt nf na lv nm vw vp tw ab am w o fo)) (w1 := (bsW ad cL cI nv nb nt nf na lv nm vw vp tw ab am w)) (wc := (bsW ad cL cI nv nb nt nf na lv nm vw vp tw ab am w)) (wr := [(o, .inl (cL, 1, .inr (.inl fo)))]) ⟨hx, hb, hml, hown, hts⟩ (e_B_value_2 l D hst n0 ad cL cI nv nb nt nf na lv nm vw vp tw ab am w hok u x hf hm) ⟨callB_of 1 hts (gW wd_423) rfl rfl rfl (hts _ wd_1) (hts _ wd_420) hd_B_value ⟨Nat.le_of_ble_eq_true rfl, Nat.le_of_ble_eq_true rfl⟩, hts _ wd_421, hts _ wd_422⟩ Ze_ok (Ze_kept hX.2.1 hS hAn) hK hP hD hS hA 0 0 rfl rfl rfl [0, 1] [0, 1, 2, 3, 4, 5, 6, 7, 8] [9] [1, 2, 3, 4, 5, 6, 7, 8, 9, 0] rfl rfl rfl rfl rfl (by decide) rfl rfl rfl hl.1 rfl (Nat.le_of_ble_eq_true rfl) d_L_value_4 ⟨Nat.le_of_ble_eq_true rfl, Nat.le_of_ble_eq_true rfl⟩ (fun xx ce H locs hP hD hS hce hcv hcl => ?_)
  refine vx_catch (own := R_L) (name := X_UOE) hown [⟨0, 9, 12, 28⟩] ⟨0, 9, 15, 40⟩ [] hT (List.forall_mem_cons.mpr ⟨Or.inr ⟨by decide, X_NSE, hts _ wd_382, hX.2.2.2.2⟩, fun _ h => absurd h List.not_mem_nil⟩) (by decide) (by decide) (hts _ wd_419) (cast_UOE hX.2.1.2.2.2) hce hcv hcl ?_
  refine lv_astore_n (lv' := [(3, .ref xx), (0, .ref (ad 0)), (1, .int x), (2, .ref o)]) hx hb d_L_value_15 rfl hl (by decide) rfl (fun ls hl => ?_)
  refine lv_iconst (v := nI 2) hx hb d_L_value_16 (by decide) ?_
  exact fh_iret hx hb hr hlocks hAe hK hP hD hS rfl (Nat.le_refl _) (Nat.le_refl _) d_L_value_17
set_option maxHeartbeats 4000000 in
set_option maxRecDepth 100000 in
theorem h_valueOf_2 (l : Launch) (D : va_G) (hst : l.stackTraces = false) (n0 t0 : Nat) (ad : Nat → Nat) (cL cI : ClassId) (nv nb nt nf na lv nm : Nat) (vw vp tw ab am : Nat → Nat) (w : Nat → Int64)  (o : Nat) (fo : Nat → Int64) (hok : Bok nv nb nt nf na lv nm vw vp tw ab am) (u : ∀ i, i < 9 → n0 ≤ ad i) (uo : n0 ≤ o) (x : Int32) (hf : hasB x nt = true) (hm : (!pNone w (250 + lv) (250 + lv)) = false) : Fh l y_L_valueOf (wkW y_L_valueOf b_L_valueOf 4 (some .int) [(0, 9, 12, 28), (0, 9, 15, 40)]) rh_valueOf D cls [(cL, .long), (cI, .int)] [.ref (ad 0), .int x, .ref o] (hW ad cL cI nv nb nt nf na lv nm vw vp tw ab am w o fo) (Xh n0 t0) (some (.int (nI 2))) (hW ad cL cI nv nb nt nf na lv nm vw vp tw ab am w o fo) := by
  refine Fh.of (by decide) rfl (Nat.le_of_ble_eq_true rfl) ?_
  intro p e s m below meth c A ls hx hb hml hr hts0 hown hlocks hT hP hK hD hS hA hAe hX hl
  have hts : ∀ w ∈ lw_ok, w.before _ s = true := fun w h => hts0 w (List.mem_cons_of_mem _ h)
  have hown : s.vm.findClass R_L = some m.cls := hown
  have hP : va_P D cls (hW ad cL cI nv nb nt nf na lv nm vw vp tw ab am w o fo) s.heap := hP
  have hl : lv_has ls 4 [(0, .ref (ad 0)), (1, .int x), (2, .ref o)] := hl
  have hAn : ∀ q, A q → n0 ≤ q := fun q h => by rw [hAe] at h; exact Xh_A hX u uo h
  refine lv_aload_n hx hb d_L_valueOf_0 rfl (lv_at hl 2 rfl) ?_
  refine lv_iconst (v := nI 0) hx hb d_L_valueOf_1 (by decide) ?_
  refine lv_aload_n hx hb d_L_valueOf_2 rfl (lv_at hl 0 rfl) ?_
  refine lv_iload_n hx hb d_L_valueOf_3 rfl (lv_at hl 1 rfl) ?_
  refine ft_V (ws' := (hW ad cL cI nv nb nt nf na lv nm vw vp tw ab am w o fo)) (w1 := (bsW ad cL cI nv nb nt nf na lv nm vw vp tw ab am w)) (wc := (bsW ad cL cI nv nb nt nf na lv nm vw vp tw ab am w)) (wr := [(o, .inl (cL, 1, .inr (.inl fo)))]) ⟨hx, hb, hml, hown, hts⟩ (e_B_valueOf_2 l D hst n0 ad cL cI nv nb nt nf na lv nm vw vp tw ab am w hok u x hf hm) ⟨callB_of 1 hts (gW wd_452) rfl rfl rfl (hts _ wd_1) (hts _ wd_449) hd_B_valueOf ⟨Nat.le_of_ble_eq_true rfl, Nat.le_of_ble_eq_true rfl⟩, hts _ wd_450, hts _ wd_451⟩ Ze_ok (Ze_kept hX.2.1 hS hAn) hK hP hD hS hA 0 0 rfl rfl rfl [0, 1] [0, 1, 2, 3, 4, 5, 6, 7, 8] [9] [1, 2, 3, 4, 5, 6, 7, 8, 9, 0] rfl rfl rfl rfl rfl (by decide) rfl rfl rfl hl.1 rfl (Nat.le_of_ble_eq_true rfl) d_L_valueOf_4 ⟨Nat.le_of_ble_eq_true rfl, Nat.le_of_ble_eq_true rfl⟩ (fun xx ce H locs hP hD hS hce hcv hcl => ?_)
  refine vx_catch (own := R_L) (name := X_UOE) hown [⟨0, 9, 12, 28⟩] ⟨0, 9, 15, 40⟩ [] hT (List.forall_mem_cons.mpr ⟨Or.inr ⟨by decide, X_NSE, hts _ wd_382, hX.2.2.2.2⟩, fun _ h => absurd h List.not_mem_nil⟩) (by decide) (by decide) (hts _ wd_419) (cast_UOE hX.2.1.2.2.2) hce hcv hcl ?_
  refine lv_astore_n (lv' := [(3, .ref xx), (0, .ref (ad 0)), (1, .int x), (2, .ref o)]) hx hb d_L_valueOf_15 rfl hl (by decide) rfl (fun ls hl => ?_)
  refine lv_iconst (v := nI 2) hx hb d_L_valueOf_16 (by decide) ?_
  exact fh_iret hx hb hr hlocks hAe hK hP hD hS rfl (Nat.le_refl _) (Nat.le_refl _) d_L_valueOf_17
set_option maxHeartbeats 4000000 in
set_option maxRecDepth 100000 in
theorem h_fixed_2 (l : Launch) (D : va_G) (hst : l.stackTraces = false) (n0 t0 : Nat) (ad : Nat → Nat) (cL cI : ClassId) (nv nb nt nf na lv nm : Nat) (vw vp tw ab am : Nat → Nat) (w : Nat → Int64)  (o : Nat) (fo : Nat → Int64) (hok : Bok nv nb nt nf na lv nm vw vp tw ab am) (u : ∀ i, i < 9 → n0 ≤ ad i) (uo : n0 ≤ o) (x : Int32) (hf : hasB x nv = true) (hm : (!pNone w (250 + lv) (250 + lv)) = false) : Fh l y_L_fixed (wkW y_L_fixed b_L_fixed 4 (some .int) [(0, 9, 12, 28), (0, 9, 15, 40)]) rh_fixed D cls [(cL, .long), (cI, .int)] [.ref (ad 0), .int x, .ref o] (hW ad cL cI nv nb nt nf na lv nm vw vp tw ab am w o fo) (Xh n0 t0) (some (.int (nI 2))) (hW ad cL cI nv nb nt nf na lv nm vw vp tw ab am w o fo) := by
  refine Fh.of (by decide) rfl (Nat.le_of_ble_eq_true rfl) ?_
  intro p e s m below meth c A ls hx hb hml hr hts0 hown hlocks hT hP hK hD hS hA hAe hX hl
  have hts : ∀ w ∈ lw_ok, w.before _ s = true := fun w h => hts0 w (List.mem_cons_of_mem _ h)
  have hown : s.vm.findClass R_L = some m.cls := hown
  have hP : va_P D cls (hW ad cL cI nv nb nt nf na lv nm vw vp tw ab am w o fo) s.heap := hP
  have hl : lv_has ls 4 [(0, .ref (ad 0)), (1, .int x), (2, .ref o)] := hl
  have hAn : ∀ q, A q → n0 ≤ q := fun q h => by rw [hAe] at h; exact Xh_A hX u uo h
  refine lv_aload_n hx hb d_L_fixed_0 rfl (lv_at hl 2 rfl) ?_
  refine lv_iconst (v := nI 0) hx hb d_L_fixed_1 (by decide) ?_
  refine lv_aload_n hx hb d_L_fixed_2 rfl (lv_at hl 0 rfl) ?_
  refine lv_iload_n hx hb d_L_fixed_3 rfl (lv_at hl 1 rfl) ?_
  refine ft_V (ws' := (hW ad cL cI nv nb nt nf na lv nm vw vp tw ab am w o fo)) (w1 := (bsW ad cL cI nv nb nt nf na lv nm vw vp tw ab am w)) (wc := (bsW ad cL cI nv nb nt nf na lv nm vw vp tw ab am w)) (wr := [(o, .inl (cL, 1, .inr (.inl fo)))]) ⟨hx, hb, hml, hown, hts⟩ (e_B_fixed_2 l D hst n0 ad cL cI nv nb nt nf na lv nm vw vp tw ab am w hok u x hf hm) ⟨callB_of 1 hts (gW wd_478) rfl rfl rfl (hts _ wd_1) (hts _ wd_475) hd_B_fixed ⟨Nat.le_of_ble_eq_true rfl, Nat.le_of_ble_eq_true rfl⟩, hts _ wd_476, hts _ wd_477⟩ Ze_ok (Ze_kept hX.2.1 hS hAn) hK hP hD hS hA 0 0 rfl rfl rfl [0, 1] [0, 1, 2, 3, 4, 5, 6, 7, 8] [9] [1, 2, 3, 4, 5, 6, 7, 8, 9, 0] rfl rfl rfl rfl rfl (by decide) rfl rfl rfl hl.1 rfl (Nat.le_of_ble_eq_true rfl) d_L_fixed_4 ⟨Nat.le_of_ble_eq_true rfl, Nat.le_of_ble_eq_true rfl⟩ (fun xx ce H locs hP hD hS hce hcv hcl => ?_)
  refine vx_catch (own := R_L) (name := X_UOE) hown [⟨0, 9, 12, 28⟩] ⟨0, 9, 15, 40⟩ [] hT (List.forall_mem_cons.mpr ⟨Or.inr ⟨by decide, X_NSE, hts _ wd_382, hX.2.2.2.2⟩, fun _ h => absurd h List.not_mem_nil⟩) (by decide) (by decide) (hts _ wd_419) (cast_UOE hX.2.1.2.2.2) hce hcv hcl ?_
  refine lv_astore_n (lv' := [(3, .ref xx), (0, .ref (ad 0)), (1, .int x), (2, .ref o)]) hx hb d_L_fixed_15 rfl hl (by decide) rfl (fun ls hl => ?_)
  refine lv_iconst (v := nI 2) hx hb d_L_fixed_16 (by decide) ?_
  exact fh_iret hx hb hr hlocks hAe hK hP hD hS rfl (Nat.le_refl _) (Nat.le_refl _) d_L_fixed_17
set_option maxHeartbeats 4000000 in
set_option maxRecDepth 100000 in
theorem h_entailed_2 (l : Launch) (D : va_G) (hst : l.stackTraces = false) (n0 t0 : Nat) (ad : Nat → Nat) (cL cI : ClassId) (nv nb nt nf na lv nm : Nat) (vw vp tw ab am : Nat → Nat) (w : Nat → Int64)  (o : Nat) (fo : Nat → Int64) (hok : Bok nv nb nt nf na lv nm vw vp tw ab am) (u : ∀ i, i < 9 → n0 ≤ ad i) (uo : n0 ≤ o) (f : Nat) (hff : f < nf) (hm : (!pNone w (250 + lv) (250 + lv)) = false) : Fh l y_L_entailed (wkW y_L_entailed b_L_entailed 4 (some .int) [(0, 9, 12, 28), (0, 9, 15, 40)]) rh_entailed D cls [(cL, .long), (cI, .int)] [.ref (ad 0), .int (nI f), .ref o] (hW ad cL cI nv nb nt nf na lv nm vw vp tw ab am w o fo) (Xh n0 t0) (some (.int (nI 2))) (hW ad cL cI nv nb nt nf na lv nm vw vp tw ab am w o fo) := by
  refine Fh.of (by decide) rfl (Nat.le_of_ble_eq_true rfl) ?_
  intro p e s m below meth c A ls hx hb hml hr hts0 hown hlocks hT hP hK hD hS hA hAe hX hl
  have hts : ∀ w ∈ lw_ok, w.before _ s = true := fun w h => hts0 w (List.mem_cons_of_mem _ h)
  have hown : s.vm.findClass R_L = some m.cls := hown
  have hP : va_P D cls (hW ad cL cI nv nb nt nf na lv nm vw vp tw ab am w o fo) s.heap := hP
  have hl : lv_has ls 4 [(0, .ref (ad 0)), (1, .int (nI f)), (2, .ref o)] := hl
  have hAn : ∀ q, A q → n0 ≤ q := fun q h => by rw [hAe] at h; exact Xh_A hX u uo h
  refine lv_aload_n hx hb d_L_entailed_0 rfl (lv_at hl 2 rfl) ?_
  refine lv_iconst (v := nI 0) hx hb d_L_entailed_1 (by decide) ?_
  refine lv_aload_n hx hb d_L_entailed_2 rfl (lv_at hl 0 rfl) ?_
  refine lv_iload_n hx hb d_L_entailed_3 rfl (lv_at hl 1 rfl) ?_
  refine ft_V (ws' := (hW ad cL cI nv nb nt nf na lv nm vw vp tw ab am w o fo)) (w1 := (bsW ad cL cI nv nb nt nf na lv nm vw vp tw ab am w)) (wc := (bsW ad cL cI nv nb nt nf na lv nm vw vp tw ab am w)) (wr := [(o, .inl (cL, 1, .inr (.inl fo)))]) ⟨hx, hb, hml, hown, hts⟩ (e_B_entailed_2 l D hst n0 ad cL cI nv nb nt nf na lv nm vw vp tw ab am w hok u (nI f) (hasB_I hff (by have := hok.2.2.2.1; omega)) hm) ⟨callB_of 1 hts (gW wd_463) rfl rfl rfl (hts _ wd_1) (hts _ wd_460) hd_B_entailed ⟨Nat.le_of_ble_eq_true rfl, Nat.le_of_ble_eq_true rfl⟩, hts _ wd_461, hts _ wd_462⟩ Ze_ok (Ze_kept hX.2.1 hS hAn) hK hP hD hS hA 0 0 rfl rfl rfl [0, 1] [0, 1, 2, 3, 4, 5, 6, 7, 8] [9] [1, 2, 3, 4, 5, 6, 7, 8, 9, 0] rfl rfl rfl rfl rfl (by decide) rfl rfl rfl hl.1 rfl (Nat.le_of_ble_eq_true rfl) d_L_entailed_4 ⟨Nat.le_of_ble_eq_true rfl, Nat.le_of_ble_eq_true rfl⟩ (fun xx ce H locs hP hD hS hce hcv hcl => ?_)
  refine vx_catch (own := R_L) (name := X_UOE) hown [⟨0, 9, 12, 28⟩] ⟨0, 9, 15, 40⟩ [] hT (List.forall_mem_cons.mpr ⟨Or.inr ⟨by decide, X_NSE, hts _ wd_382, hX.2.2.2.2⟩, fun _ h => absurd h List.not_mem_nil⟩) (by decide) (by decide) (hts _ wd_419) (cast_UOE hX.2.1.2.2.2) hce hcv hcl ?_
  refine lv_astore_n (lv' := [(3, .ref xx), (0, .ref (ad 0)), (1, .int (nI f)), (2, .ref o)]) hx hb d_L_entailed_15 rfl hl (by decide) rfl (fun ls hl => ?_)
  refine lv_iconst (v := nI 2) hx hb d_L_entailed_16 (by decide) ?_
  exact fh_iret hx hb hr hlocks hAe hK hP hD hS rfl (Nat.le_refl _) (Nat.le_refl _) d_L_entailed_17
set_option maxHeartbeats 4000000 in
set_option maxRecDepth 100000 in
theorem h_least_2 (l : Launch) (D : va_G) (hst : l.stackTraces = false) (n0 t0 : Nat) (ad : Nat → Nat) (cL cI : ClassId) (nv nb nt nf na lv nm : Nat) (vw vp tw ab am : Nat → Nat) (w : Nat → Int64)  (o : Nat) (fo : Nat → Int64) (hok : Bok nv nb nt nf na lv nm vw vp tw ab am) (u : ∀ i, i < 9 → n0 ≤ ad i) (uo : n0 ≤ o) (t : Nat) (htt : t < nt) (hm : (!pNone w (250 + lv) (250 + lv)) = false) : Fh l y_L_least (wkW y_L_least b_L_least 4 (some .int) [(0, 9, 12, 28), (0, 9, 15, 40)]) rh_least D cls [(cL, .long), (cI, .int)] [.ref (ad 0), .int (nI t), .ref o] (hW ad cL cI nv nb nt nf na lv nm vw vp tw ab am w o fo) (Xh n0 t0) (some (.int (nI 2))) (hW ad cL cI nv nb nt nf na lv nm vw vp tw ab am w o fo) := by
  refine Fh.of (by decide) rfl (Nat.le_of_ble_eq_true rfl) ?_
  intro p e s m below meth c A ls hx hb hml hr hts0 hown hlocks hT hP hK hD hS hA hAe hX hl
  have hts : ∀ w ∈ lw_ok, w.before _ s = true := fun w h => hts0 w (List.mem_cons_of_mem _ h)
  have hown : s.vm.findClass R_L = some m.cls := hown
  have hP : va_P D cls (hW ad cL cI nv nb nt nf na lv nm vw vp tw ab am w o fo) s.heap := hP
  have hl : lv_has ls 4 [(0, .ref (ad 0)), (1, .int (nI t)), (2, .ref o)] := hl
  have hAn : ∀ q, A q → n0 ≤ q := fun q h => by rw [hAe] at h; exact Xh_A hX u uo h
  refine lv_aload_n hx hb d_L_least_0 rfl (lv_at hl 2 rfl) ?_
  refine lv_iconst (v := nI 0) hx hb d_L_least_1 (by decide) ?_
  refine lv_aload_n hx hb d_L_least_2 rfl (lv_at hl 0 rfl) ?_
  refine lv_iload_n hx hb d_L_least_3 rfl (lv_at hl 1 rfl) ?_
  refine ft_V (ws' := (hW ad cL cI nv nb nt nf na lv nm vw vp tw ab am w o fo)) (w1 := (bsW ad cL cI nv nb nt nf na lv nm vw vp tw ab am w)) (wc := (bsW ad cL cI nv nb nt nf na lv nm vw vp tw ab am w)) (wr := [(o, .inl (cL, 1, .inr (.inl fo)))]) ⟨hx, hb, hml, hown, hts⟩ (e_B_least_2 l D hst n0 ad cL cI nv nb nt nf na lv nm vw vp tw ab am w hok u (nI t) (hasB_I htt (by have := hok.2.2.1; omega)) hm) ⟨callB_of 1 hts (gW wd_485) rfl rfl rfl (hts _ wd_1) (hts _ wd_482) hd_B_least ⟨Nat.le_of_ble_eq_true rfl, Nat.le_of_ble_eq_true rfl⟩, hts _ wd_483, hts _ wd_484⟩ Ze_ok (Ze_kept hX.2.1 hS hAn) hK hP hD hS hA 0 0 rfl rfl rfl [0, 1] [0, 1, 2, 3, 4, 5, 6, 7, 8] [9] [1, 2, 3, 4, 5, 6, 7, 8, 9, 0] rfl rfl rfl rfl rfl (by decide) rfl rfl rfl hl.1 rfl (Nat.le_of_ble_eq_true rfl) d_L_least_4 ⟨Nat.le_of_ble_eq_true rfl, Nat.le_of_ble_eq_true rfl⟩ (fun xx ce H locs hP hD hS hce hcv hcl => ?_)
  refine vx_catch (own := R_L) (name := X_UOE) hown [⟨0, 9, 12, 28⟩] ⟨0, 9, 15, 40⟩ [] hT (List.forall_mem_cons.mpr ⟨Or.inr ⟨by decide, X_NSE, hts _ wd_382, hX.2.2.2.2⟩, fun _ h => absurd h List.not_mem_nil⟩) (by decide) (by decide) (hts _ wd_419) (cast_UOE hX.2.1.2.2.2) hce hcv hcl ?_
  refine lv_astore_n (lv' := [(3, .ref xx), (0, .ref (ad 0)), (1, .int (nI t)), (2, .ref o)]) hx hb d_L_least_15 rfl hl (by decide) rfl (fun ls hl => ?_)
  refine lv_iconst (v := nI 2) hx hb d_L_least_16 (by decide) ?_
  exact fh_iret hx hb hr hlocks hAe hK hP hD hS rfl (Nat.le_refl _) (Nat.le_refl _) d_L_least_17
