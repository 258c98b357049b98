theorem Rel_0 : Rel 0 0 0 0 0 0 0 (fun _ => 0) (fun _ => 0) (fun _ => 0) (fun _ => 0) (fun _ => 0) (oFill true 250 1 (fun _ => 0)) (fun _ => 0) (fun _ => 0) (fun _ => nI 0) (fun _ => nI 0) (fun _ => 0) (fun _ => 0) (fun _ => nI 0) (fun _ => 0) (fun _ => 0) (fun _ => 0) (fun _ => 0) := by
  refine ⟨⟨by decide, by decide, by decide, by decide, by decide, by decide, by decide, fun j hj => absurd hj (Nat.not_lt_zero j), fun j hj => absurd hj (Nat.not_lt_zero j), fun j hj => absurd hj (Nat.not_lt_zero j), fun j h1 h2 => absurd h2 (by omega)⟩, ⟨by decide, by decide, by decide, by decide, by decide, by decide, by decide, fun j hj => absurd hj (Nat.not_lt_zero j), fun j hj => absurd hj (Nat.not_lt_zero j), fun j hj => absurd hj (Nat.not_lt_zero j), fun j hj => absurd hj (Nat.not_lt_zero j), fun j hj => absurd hj (Nat.not_lt_zero j), fun j hj => absurd hj (Nat.not_lt_zero j), fun j hj => absurd hj (Nat.not_lt_zero j), fun j => (show 0 < 16 by decide)⟩, ⟨rfl, fun j hj => absurd hj (Nat.not_lt_zero j)⟩, ⟨fun j hj => absurd hj (Nat.not_lt_zero j), rfl⟩, ⟨fun j hj => absurd hj (Nat.not_lt_zero j), fun j hj => absurd hj (Nat.not_lt_zero j)⟩, ⟨fun j hj x hx => ?_, fun j hj => absurd hj (Nat.not_lt_zero j), fun j h1 h2 => absurd h2 (by omega), fun j h1 h2 => absurd h2 (by omega)⟩⟩
  rw [show j = 0 by omega, if_pos rfl, pb_fill1 _ _ _ hx, if_pos rfl]
  exact ⟨fun _ i hi => absurd hi (Nat.not_lt_zero i), fun _ => rfl⟩
theorem start_bad {s : State} {b : Nat} (hts0 : ∀ w ∈ lw_tbl, w.before #[Value.ref b] s = true) : Bw s := by
  intro w hw
  simp only [lw_bad, List.mem_cons, List.not_mem_nil, or_false] at hw
  rcases hw with rfl | rfl | rfl | rfl | rfl | rfl | rfl | rfl | rfl | rfl
  · exact va_Nw.of rfl (hts0 _ (List.mem_append_right _ (List.mem_of_getElem? (i := 149) (by decide +kernel))))
  · exact va_Nw.of rfl (hts0 _ (List.mem_append_right _ (List.mem_of_getElem? (i := 213) (by decide +kernel))))
  · exact va_Nw.of rfl (hts0 _ (List.mem_append_right _ (List.mem_of_getElem? (i := 389) (by decide +kernel))))
  · exact va_Nw.of rfl (hts0 _ (List.mem_append_right _ (List.mem_of_getElem? (i := 426) (by decide +kernel))))
  · exact va_Nw.of rfl (hts0 _ (List.mem_append_right _ (List.mem_of_getElem? (i := 150) (by decide +kernel))))
  · exact va_Nw.of rfl (hts0 _ (List.mem_append_right _ (List.mem_of_getElem? (i := 151) (by decide +kernel))))
  · exact va_Nw.of rfl (hts0 _ (List.mem_append_right _ (List.mem_of_getElem? (i := 152) (by decide +kernel))))
  · exact va_Nw.of rfl (hts0 _ (List.mem_append_right _ (List.mem_of_getElem? (i := 153) (by decide +kernel))))
  · exact va_Nw.of rfl (hts0 _ (List.mem_append_right _ (List.mem_of_getElem? (i := 154) (by decide +kernel))))
  · exact va_Nw.of rfl (hts0 _ (List.mem_append_right _ (List.mem_of_getElem? (i := 155) (by decide +kernel))))
theorem start_X {s : State} {b : Nat} (hts0 : ∀ w ∈ lw_tbl, w.before #[Value.ref b] s = true) (hgv : (Jvm.Cond.and given_1 narrow_1).before #[Value.ref b] s = true) : ∃ t0, Xh s.heap.size t0 s := by
  have hts : ∀ w ∈ lw_ok, w.before #[Value.ref b] s = true := fun w h => hts0 w (List.mem_filter.mp h).1
  have hs := flat_of_before _ hgv
  have hA0 : ∀ a : Nat, a < s.heap.size → ¬ (fun q : Nat => s.heap.size ≤ q) a := fun a h => Nat.not_le.mpr h
  obtain ⟨t0, hv, hT⟩ := va_Tof (s := s) (args := #[Value.ref b]) (tm := .static "BitSolver$Sets" "BY_PLACE" "[J") (ty := .long) (N := 6) (f := fun j => .long (wbpT j)) (A := fun q : Nat => s.heap.size ≤ q) (by decide) (hs _ (by decide +kernel)) (va_eqt (z := Int32.ofNat 6) (hs _ (by decide +kernel))) (fun j hj => by
    rcases (show j = 0 ∨ j = 1 ∨ j = 2 ∨ j = 3 ∨ j = 4 ∨ j = 5 by omega) with rfl | rfl | rfl | rfl | rfl | rfl
    · exact va_eqtl (z := wbpT 0) (hs _ (by decide +kernel))
    · exact va_eqtl (z := wbpT 1) (hs _ (by decide +kernel))
    · exact va_eqtl (z := wbpT 2) (hs _ (by decide +kernel))
    · exact va_eqtl (z := wbpT 3) (hs _ (by decide +kernel))
    · exact va_eqtl (z := wbpT 4) (hs _ (by decide +kernel))
    · exact va_eqtl (z := wbpT 5) (hs _ (by decide +kernel))) hA0
  refine ⟨t0, ⟨Nat.le_refl _, va_Zref (hts0 _ (List.mem_append_right _ (List.mem_of_getElem? (i := 284) (by decide +kernel)))) (hts _ wd_3) hv hA0, hT⟩, ⟨Nat.le_refl _, vx_Zqof (hts0 _ (List.mem_append_right _ (List.mem_of_getElem? (i := 174) (by decide +kernel)))) (hts _ wd_5) (hs _ (by decide +kernel)) hA0, vx_Zqof (hts0 _ (List.mem_append_right _ (List.mem_of_getElem? (i := 176) (by decide +kernel)))) (hts _ wd_5) (hs _ (by decide +kernel)) hA0, start_bad hts0⟩, va_Nc.of (hs _ (by decide +kernel)), va_Nc.of (hs _ (by decide +kernel)), va_Nc.of (hs _ (by decide +kernel))⟩
set_option maxHeartbeats 4000000 in
set_option maxRecDepth 100000 in
theorem whole_start {p : Program} {e : Env} {s : State} {m : MethodId} {below : List Frame} {meth : Method} {c : Code} (l : Launch) (hfl : l.flags = flags0) {b L : Nat} {xs : Nat → Int32} (hL : L ≤ 2560) (C0 : lw_At p s m meth c b L xs) : W p l e room_1 s m #[Value.ref b] below meth c s.heap [] 0 0 (lw_Z below #[Value.ref b] s) (entryFrame m ([Value.ref b] : List Value).toArray 7) := by
  obtain ⟨hx, hb, hr, hml, hown, hts0, hXs, hbl, hlocks, hgv⟩ := id C0
  have hst : l.stackTraces = false := by unfold Launch.stackTraces; rw [hfl]; decide +kernel
  have hts : ∀ w ∈ lw_ok, w.before #[Value.ref b] s = true := fun w h => hts0 w (List.mem_filter.mp h).1
  have hown : s.vm.findClass R_L = some m.cls := hown
  obtain ⟨t0, hXh⟩ := start_X hts0 hgv
  have hXN : XN s := va_Nw.of rfl (hts0 _ (List.mem_append_right _ (List.mem_of_getElem? (i := 38) (by decide +kernel))))
  obtain ⟨A, hAe⟩ : ∃ A : Nat → Prop, A = fun q : Nat => s.heap.size ≤ q := ⟨_, rfl⟩
  have hA : ∀ q : Nat, s.heap.size ≤ q → A q := by rw [hAe]; exact fun _ h => h
  have hAn : ∀ q : Nat, A q → s.heap.size ≤ q := by rw [hAe]; exact fun _ h => h
  obtain ⟨c0, iS0, hKn0⟩ := u_known (C := R_B) (T := F_B) (N := 14) (n := 14) hts in_B (hts _ wd_13)
  obtain ⟨c1, iS1, hKn1⟩ := u_known (C := R_S) (T := F_S) (N := 1) (n := 1) hts in_S (hts _ wd_27)
  obtain ⟨c2, iS2, hKn2⟩ := u_known (C := R_C) (T := F_C) (N := 1) (n := 1) hts in_C (hts _ wd_21)
  obtain ⟨c3, iS3, hKn3⟩ := u_known (C := R_M) (T := F_M) (N := 23) (n := 23) hts in_M (hts _ wd_509)
  obtain ⟨dC, dI, hKc⟩ : ∃ (dC : Nat → ClassId) (dI : Nat → Nat → Nat), ∀ (k : Nat) (q : vw_C), cls[k]? = some q → u_Kn s q.1 q.2.1 q.2.2 (dC k) (dI k) := by
    refine ⟨fun k => if k = 0 then c0 else if k = 1 then c1 else if k = 2 then c2 else c3, fun k => if k = 0 then iS0 else if k = 1 then iS1 else if k = 2 then iS2 else iS3, ?_⟩
    intro k q hq
    match k, hq with
    | 0, hq => cases hq; exact hKn0
    | 1, hq => cases hq; exact hKn1
    | 2, hq => cases hq; exact hKn2
    | 3, hq => cases hq; exact hKn3
    | k + 4, hq => simp [cls] at hq
  obtain ⟨D, hDe⟩ : ∃ D : va_G, D = (dC, dI) := ⟨_, rfl⟩
  have hS : va_S A s.heap s.heap [] := va_S.rf
  have hK : va_K D cls [] s := by rw [hDe]; exact ⟨hKc, fun k q h => by simp at h⟩
  have hP : va_P D cls [] s.heap := fun k q h => by simp at h
  have hD : va_D A [] := ⟨fun i j p q h => by simp at h, fun k q h => by simp at h⟩
  have hl := lv_entry ([.ref b]) (n := 7) (Nat.le_of_ble_eq_true rfl)
  rw [lg_entry_eq]
  generalize (lg_sl ([.ref b]) ++ List.replicate (7 - (lg_sl ([.ref b])).length) Slot.unset).toArray = ls at hl ⊢
  have hl : lv_has ls 7 [(0, .ref b)] := hl
  refine va_new (ci := 0) (fs := [.null, .null, .null, .null, .int (nI 0), .int (nI 0), .null, .int (nI 0), .int (nI 0), .null, .int (nI 0), .int (nI 0), .null, .int (nI 0)]) (C := R_B) (T := F_B) (N := 14) hx hb hts in_B t_B tok_B hown (hts _ wd_12) (hts _ wd_13) (hts _ wd_1) hK hP hD hS hA rfl (fun j hj => by rcases (show j = 0 ∨ j = 1 ∨ j = 2 ∨ j = 3 ∨ j = 4 ∨ j = 5 ∨ j = 6 ∨ j = 7 ∨ j = 8 ∨ j = 9 ∨ j = 10 ∨ j = 11 ∨ j = 12 ∨ j = 13 by omega) with rfl | rfl | rfl | rfl | rfl | rfl | rfl | rfl | rfl | rfl | rfl | rfl | rfl | rfl <;> rfl) (Nat.le_of_ble_eq_true rfl) (Nat.le_of_ble_eq_true rfl) d_L_law_0 (fun q0 H hP hD hS => ?_)
  have hP : va_P D cls [(q0, .inr (0, [.null, .null, .null, .null, .int (nI 0), .int (nI 0), .null, .int (nI 0), .int (nI 0), .null, .int (nI 0), .int (nI 0), .null, .int (nI 0)]))] H := hP
  have hD : va_D A [(q0, .inr (0, [.null, .null, .null, .null, .int (nI 0), .int (nI 0), .null, .int (nI 0), .int (nI 0), .null, .int (nI 0), .int (nI 0), .null, .int (nI 0)]))] := hD
  refine lv_dup hx hb d_L_law_3 rfl ?_
  have hFc := va_free (wc := [(q0, .inr (0, [.null, .null, .null, .null, .int (nI 0), .int (nI 0), .null, .int (nI 0), .int (nI 0), .null, .int (nI 0), .int (nI 0), .null, .int (nI 0)]))]) hD hS hA [0] rfl
  refine va_callv (va_runI (As := []) (rest := [.ref q0]) ⟨hx, hb, hml, hown, hts⟩ (c_B_init l D q0 H.size) ⟨callB_of 0 hts (gW wd_16) rfl rfl rfl (hts _ wd_1) (hts _ wd_14) hd_B_init ⟨Nat.le_of_ble_eq_true rfl, Nat.le_of_ble_eq_true rfl⟩, rfl, hts _ wd_15⟩ ⟨Fp_blind XN_ok, fun U hU hW => ⟨rfl, by rw [hU], by rw [hU]; exact hP, va_K.moved hW.alike hK, hD.weaken (fun _ _ _ _ => trivial), va_Nw.warmF hW hXN⟩⟩ rfl rfl hl.1 rfl (lv_room (Nat.le_of_ble_eq_true rfl)) d_L_law_4 ⟨Nat.le_of_ble_eq_true rfl, Nat.le_of_ble_eq_true rfl⟩) hS (fun q _ h => hFc q h) hFc (fun u t H1 locs ht hvm hw hB hz1 hk1 hS => ?_)
  obtain ⟨ad, cL, cI⟩ := u
  obtain ⟨hP1, hK1, hD1⟩ := hB
  rw [ht] at hP1
  have hK := va_K.moved hvm.symm hK1
  have e0 : ad 0 = q0 := hw
  subst e0
  obtain ⟨hP, hD⟩ := va_join (wr := []) (w1 := (bsW ad cL cI 0 0 0 0 0 0 0 (fun _ => 0) (fun _ => 0) (fun _ => 0) (fun _ => 0) (fun _ => 0) (oFill true 250 1 (fun _ => 0)))) hP hD [0] [] rfl rfl (by decide) (by decide) hk1 hFc hP1 hD1
  generalize H1 = H at hP hS ⊢
  have hP : va_P D cls (bsW ad cL cI 0 0 0 0 0 0 0 (fun _ => 0) (fun _ => 0) (fun _ => 0) (fun _ => 0) (fun _ => 0) (oFill true 250 1 (fun _ => 0))) H := hP
  have hD : va_D A (bsW ad cL cI 0 0 0 0 0 0 0 (fun _ => 0) (fun _ => 0) (fun _ => 0) (fun _ => 0) (fun _ => 0) (oFill true 250 1 (fun _ => 0))) := hD
  have hK : va_K D cls [(cL, .long), (cI, .int)] s := hK
  refine lv_astore_n (lv' := [(1, .ref (ad 0)), (0, .ref b)]) hx hb d_L_law_7 rfl hl (by decide) rfl (fun ls hl => ?_)
  refine va_new (ci := 3) (fs := [.int (nI 0), .null, .int (nI 0), .int (nI 0), .null, .null, .null, .null, .null, .int (nI 0), .null, .null, .null, .int (nI 0), .null, .null, .null, .int (nI 0), .int (nI 0), .null, .int (nI 0), .null, .null]) (C := R_M) (T := F_M) (N := 23) hx hb hts in_M t_M tok_M hown (hts _ wd_508) (hts _ wd_509) (hts _ wd_4) hK hP hD hS hA rfl (fun j hj => by rcases (show j = 0 ∨ j = 1 ∨ j = 2 ∨ j = 3 ∨ j = 4 ∨ j = 5 ∨ j = 6 ∨ j = 7 ∨ j = 8 ∨ j = 9 ∨ j = 10 ∨ j = 11 ∨ j = 12 ∨ j = 13 ∨ j = 14 ∨ j = 15 ∨ j = 16 ∨ j = 17 ∨ j = 18 ∨ j = 19 ∨ j = 20 ∨ j = 21 ∨ j = 22 by omega) with rfl | rfl | rfl | rfl | rfl | rfl | rfl | rfl | rfl | rfl | rfl | rfl | rfl | rfl | rfl | rfl | rfl | rfl | rfl | rfl | rfl | rfl | rfl <;> rfl) (Nat.le_of_ble_eq_true rfl) (Nat.le_of_ble_eq_true rfl) d_L_law_8 (fun q1 H hP hD hS => ?_)
  refine lv_dup hx hb d_L_law_11 rfl ?_
  have hPc := hP.sub (ws' := [(q1, .inr (3, [.int (nI 0), .null, .int (nI 0), .int (nI 0), .null, .null, .null, .null, .null, .int (nI 0), .null, .null, .null, .int (nI 0), .null, .null, .null, .int (nI 0), .int (nI 0), .null, .int (nI 0), .null, .null]))]) [9] rfl
  have hDc := hD.sub (ws' := [(q1, .inr (3, [.int (nI 0), .null, .int (nI 0), .int (nI 0), .null, .null, .null, .null, .null, .int (nI 0), .null, .null, .null, .int (nI 0), .null, .null, .null, .int (nI 0), .int (nI 0), .null, .int (nI 0), .null, .null]))]) [9] (by decide) rfl
  have hKc2 := hK.sub (tys' := []) [] rfl
  have hFc := va_free (wc := [(q1, .inr (3, [.int (nI 0), .null, .int (nI 0), .int (nI 0), .null, .null, .null, .null, .null, .int (nI 0), .null, .null, .null, .int (nI 0), .null, .null, .null, .int (nI 0), .int (nI 0), .null, .int (nI 0), .null, .null]))]) hD hS hA [9] rfl
  refine va_callv (va_runI (As := []) (rest := [.ref q1]) ⟨hx, hb, hml, hown, hts⟩ (c_M_init l D q1 H.size) ⟨callB_of 0 hts (gW wd_512) rfl rfl rfl (hts _ wd_4) (hts _ wd_510) hd_M_init ⟨Nat.le_of_ble_eq_true rfl, Nat.le_of_ble_eq_true rfl⟩, rfl, hts _ wd_511⟩ ⟨Fp_blind XT_ok, fun U hU hW => ⟨rfl, by rw [hU], by rw [hU]; exact hPc, va_K.moved hW.alike hKc2, hDc.weaken (fun _ _ _ _ => trivial), trivial⟩⟩ rfl rfl hl.1 rfl (lv_room (Nat.le_of_ble_eq_true rfl)) d_L_law_12 ⟨Nat.le_of_ble_eq_true rfl, Nat.le_of_ble_eq_true rfl⟩) hS (fun q _ h => hFc q h) hFc (fun u t H1 locs ht hvm hw hB hz1 hk1 hS => ?_)
  obtain ⟨ma, cI2, cZ⟩ := u
  obtain ⟨hP1, hK1, hD1⟩ := hB
  rw [ht] at hP1
  have hK1 := va_K.moved hvm.symm hK1
  obtain rfl : cI = cI2 := Option.some.inj ((hK.2 1 _ rfl).2.symm.trans (hK1.2 0 _ rfl).2)
  have e1 : ma 0 = q1 := hw
  subst e1
  obtain ⟨hP, hD⟩ := va_join (wr := (bsW ad cL cI 0 0 0 0 0 0 0 (fun _ => 0) (fun _ => 0) (fun _ => 0) (fun _ => 0) (fun _ => 0) (oFill true 250 1 (fun _ => 0)))) (w1 := (mW ma cI cZ 0 0 0 0 0 0 0 0 (fun _ => 0) (fun _ => 0) (fun _ => 0) (fun _ => nI 0) (fun _ => nI 0) (fun _ => 0) (fun _ => 0) (fun _ => 0) (fun _ => nI 0) (fun _ => 0) (fun _ => 0) (fun _ => 0) (fun _ => 0) (fun _ => 0) (fun _ => false))) hP hD [9] [0, 1, 2, 3, 4, 5, 6, 7, 8] rfl rfl (by decide) (by decide) hk1 hFc hP1 hD1
  have hK := (hK.sub (tys' := [(cL, .long), (cI, .int)]) [0, 1] rfl).app hK1
  generalize H1 = H at hP hS ⊢
  have hK : va_K D cls [(cL, .long), (cI, .int), (cZ, .boolean)] s := hK.sub [0, 1, 3] rfl
  refine lv_astore_n (lv' := [(2, .ref (ma 0)), (1, .ref (ad 0)), (0, .ref b)]) hx hb d_L_law_15 rfl hl (by decide) rfl (fun ls hl => ?_)
  refine lv_iconst (v := nI 1) hx hb d_L_law_16 (by decide) ?_
  refine va_newa (atype := .long) (ty := .long) (a0 := (1, .inr (.inl (fun _ => 0)))) hx hb (hts _ wd_36) rfl hK hP hD hS hA (fun cA => rfl) (nI_pos (by decide)) (nI_clamp (n := 1) (by decide)) (by decide) (Nat.le_of_ble_eq_true rfl) (Nat.le_of_ble_eq_true rfl) d_L_law_17 (fun o cL2 H hK2 hP hD hS => ?_)
  obtain rfl : cL = cL2 := Option.some.inj ((hK2.2 0 _ rfl).2.symm.trans (hK2.2 3 _ rfl).2)
  have hP : va_P D cls (lW ad cL cI 0 0 0 0 0 0 0 (fun _ => 0) (fun _ => 0) (fun _ => 0) (fun _ => 0) (fun _ => 0) (oFill true 250 1 (fun _ => 0)) ma cZ 0 0 0 0 0 0 0 0 (fun _ => 0) (fun _ => 0) (fun _ => 0) (fun _ => nI 0) (fun _ => nI 0) (fun _ => 0) (fun _ => 0) (fun _ => 0) (fun _ => nI 0) (fun _ => 0) (fun _ => 0) (fun _ => 0) (fun _ => 0) (fun _ => 0) (fun _ => false) o (fun _ => 0)) H := hP
  have hD : va_D A (lW ad cL cI 0 0 0 0 0 0 0 (fun _ => 0) (fun _ => 0) (fun _ => 0) (fun _ => 0) (fun _ => 0) (oFill true 250 1 (fun _ => 0)) ma cZ 0 0 0 0 0 0 0 0 (fun _ => 0) (fun _ => 0) (fun _ => 0) (fun _ => nI 0) (fun _ => nI 0) (fun _ => 0) (fun _ => 0) (fun _ => 0) (fun _ => nI 0) (fun _ => 0) (fun _ => 0) (fun _ => 0) (fun _ => 0) (fun _ => 0) (fun _ => false) o (fun _ => 0)) := hD
  refine lv_astore_n (lv' := [(3, .ref o), (2, .ref (ma 0)), (1, .ref (ad 0)), (0, .ref b)]) hx hb d_L_law_19 rfl hl (by decide) rfl (fun ls hl => ?_)
  refine lv_iconst (v := nI 0) hx hb d_L_law_20 (by decide) ?_
  refine lv_istore (lv' := [(4, .int (nI 0)), (3, .ref o), (2, .ref (ma 0)), (1, .ref (ad 0)), (0, .ref b)]) hx hb d_L_law_21 hl (by decide) rfl (fun ls hl => ?_)
  have u : ∀ i, i < 9 → s.heap.size ≤ ad i := by
    intro i hi
    rcases (show i = 0 ∨ i = 1 ∨ i = 2 ∨ i = 3 ∨ i = 4 ∨ i = 5 ∨ i = 6 ∨ i = 7 ∨ i = 8 by omega) with rfl | rfl | rfl | rfl | rfl | rfl | rfl | rfl | rfl
    · exact hAn _ (hD.2 0 _ rfl)
    · exact hAn _ (hD.2 1 _ rfl)
    · exact hAn _ (hD.2 2 _ rfl)
    · exact hAn _ (hD.2 3 _ rfl)
    · exact hAn _ (hD.2 4 _ rfl)
    · exact hAn _ (hD.2 5 _ rfl)
    · exact hAn _ (hD.2 6 _ rfl)
    · exact hAn _ (hD.2 7 _ rfl)
    · exact hAn _ (hD.2 8 _ rfl)
  have uo : s.heap.size ≤ o := hAn _ (hD.2 25 _ rfl)
  exact law_loop hA hAn hst C0 t0 hXh hL ad ma cL cI cZ o u uo hK (L + 1) 0 _ _ (Nat.zero_le _) (by omega) (by omega) (by omega) H _ ls ⟨_, _, _, _, _, _, _, _, _, _, _, _, _, _, _, _, _, _, _, _, _, _, _, _, _, _, _, Rel_0, hP, hD, hS⟩ (lv_sub hl [4, 3, 2, 1, 0] rfl)
