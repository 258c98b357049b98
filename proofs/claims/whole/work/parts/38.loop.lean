set_option maxHeartbeats 4000000 in
set_option maxRecDepth 100000 in
theorem law_loop {p : Program} {l : Launch} {e : Env} {s : State} {m : MethodId} {below : List Frame} {meth : Method} {c : Code} {D : va_G} {b L : Nat} {xs : Nat → Int32} {A : Nat → Prop} (hA : ∀ q : Nat, s.heap.size ≤ q → A q) (hAn : ∀ q : Nat, A q → s.heap.size ≤ q) (hst : l.stackTraces = false) (C0 : lw_At p s m meth c b L xs) (t0 : Nat) (hXh : Xh s.heap.size t0 s) (hL : L ≤ 2560) (ad ma : Nat → Nat) (cL cI cZ : ClassId) (o : Nat) (u : ∀ i, i < 9 → s.heap.size ≤ ad i) (uo : s.heap.size ≤ o) (hK : va_K D cls [(cL, .long), (cI, .int), (cZ, .boolean)] s) : ∀ (n i zc zs : Nat), i ≤ L → L < i + n → zc + (L - i) ≤ 100000 → zs + 6 * (L - i) ≤ 1000000 → ∀ (H : Heap) (locs : List Loc) (ls : Array Slot), LJ D A s ad ma cL cI cZ o H locs → lv_has ls 7 [(0, .ref b), (1, .ref (ad 0)), (2, .ref (ma 0)), (3, .ref o), (4, .int (nI i))] → W p l e room_1 s m #[Value.ref b] below meth c H locs zc zs (lw_Z below #[Value.ref b] s) (F0 m 23 ls []) := by
  obtain ⟨hx, hb, hr, hml, hown, hts0, hXs, hbl, hlocks, hgv⟩ := id C0
  have hbA : ¬ A b := fun z => absurd (hAn b z) (Nat.not_le.mpr hbl)
  intro n
  induction n with
  | zero => intro i zc zs h1 h2; exact absurd h2 (by omega)
  | succ n ih =>
    intro i zc zs hi hin hzc hzs H locs ls hJ hl
    have hS : va_S A s.heap H locs := by
      obtain ⟨nv, nb, nt, nf, na, lv, nm, vw, vp, tw, ab, am, w, th, tk, ta, tb, tc, fk, fa, fb, od, sd, aa, vl, ho, fo, hR, hP, hD, hS⟩ := id hJ
      exact hS
    refine lv_iload hx hb d_L_law_23 (lv_at hl 4 rfl) ?_
    refine lv_aload_n hx hb d_L_law_25 rfl (lv_at hl 0 rfl) ?_
    refine va_slen hx hb hXs hbl hbA hS d_L_law_26 ?_
    refine lv_iconst (v := nI 5) hx hb d_L_law_27 (by decide) ?_
    refine lv_isub hx hb d_L_law_28 ?_
    refine z_icmp_gt (tgt := 973) hx hb (nI_toInt (n := i) (by omega)) (pk_sub_toInt (a := L) (b := 5) (by omega) (by omega)) d_L_law_29 (by decide) (fun c_29 => ?_) (fun c_29 => ?_)
    · refine lv_iconst (v := 1) hx hb d_L_law_973 (by decide) ?_
      refine va_forget (fun q hq => hAn _ (hS.2.2 q hq)) ?_
      refine W.widen (k := 601024) (n := 7293034) (by omega) (by omega) ?_
      exact lw_ret hx hb hr hlocks d_L_law_974
    · have hiL : i + 5 ≤ L := by omega
      have K : ∀ (H1 : Heap) (locs1 : List Loc) (ls1 : Array Slot), LJ D A s ad ma cL cI cZ o H1 locs1 → lv_has ls1 7 [(0, .ref b), (1, .ref (ad 0)), (2, .ref (ma 0)), (3, .ref o), (4, .int (nI i))] → W p l e room_1 s m #[Value.ref b] below meth c H1 locs1 (zc + 1) (zs + 6) (lw_Z below #[Value.ref b] s) (F0 m 967 ls1 []) := by
        intro H1 locs1 ls1 hJ1 hl1
        refine lv_iinc (v := nI (i + 5)) (lv' := [(4, .int (nI (i + 5))), (0, .ref b), (1, .ref (ad 0)), (2, .ref (ma 0)), (3, .ref o)]) hx hb d_L_law_967 hl1 (k := 4) rfl (by rw [← nI_add]; rfl) (by decide) rfl (fun ls hl => ?_)
        refine lv_goto (tgt := 23) hx hb d_L_law_970 (by decide) ?_
        exact ih (i + 5) (zc + 1) (zs + 6) (by omega) (by omega) (by omega) (by omega) H1 locs1 ls hJ1 (lv_sub hl [1, 2, 3, 4, 0] rfl)
      refine lv_aload_n hx hb d_L_law_32 rfl (lv_at hl 0 rfl) ?_
      refine lv_iload hx hb d_L_law_33 (lv_at hl 4 rfl) ?_
      refine va_sld hx hb hXs hbl hbA hS (vp_in_nI (n := i) (by omega) (by omega)) d_L_law_35 ?_
      rw [nI_clamp (n := i) (by omega)]
      refine lv_bipush (v := nI 31) hx hb d_L_law_36 (by decide) ?_
      refine lv_iand hx hb d_L_law_38 ?_
      obtain ⟨j, hj, ej⟩ := pk_andE (xs i) (m := nI 31) 5 (by decide +kernel)
      rw [ej]
      have hj : j < 32 := hj
      rcases Nat.lt_or_ge 16 j with h16 | h16
      · refine lv_tableOut (tgt := 967) hx hb d_L_law_39 (Or.inr (by rw [nI_toInt (by omega)]; omega)) (by decide) ?_
        refine W.widen (k := zc + 1) (n := zs + 6) (by omega) (by omega) ?_
        exact K H locs ls hJ hl
      · rcases (show j = 0 ∨ j = 1 ∨ j = 2 ∨ j = 3 ∨ j = 4 ∨ j = 5 ∨ j = 6 ∨ j = 7 ∨ j = 8 ∨ j = 9 ∨ j = 10 ∨ j = 11 ∨ j = 12 ∨ j = 13 ∨ j = 14 ∨ j = 15 ∨ j = 16 by omega) with rfl | rfl | rfl | rfl | rfl | rfl | rfl | rfl | rfl | rfl | rfl | rfl | rfl | rfl | rfl | rfl | rfl
        · refine lv_tableIn (tgt := 120) (off := 81) hx hb d_L_law_39 (by decide +kernel) (by decide +kernel) (by decide +kernel) (by decide) ?_
          exact law_variable hA hAn hst C0 t0 hXh zc zs (by omega) (by omega) i hiL hL ad ma cL cI cZ o u uo hK hJ hl K
        · refine lv_tableIn (tgt := 176) (off := 137) hx hb d_L_law_39 (by decide +kernel) (by decide +kernel) (by decide +kernel) (by decide) ?_
          exact law_term hA hAn hst C0 t0 hXh zc zs (by omega) (by omega) i hiL hL ad ma cL cI cZ o u uo hK hJ hl K
        · refine lv_tableIn (tgt := 268) (off := 229) hx hb d_L_law_39 (by decide +kernel) (by decide +kernel) (by decide +kernel) (by decide) ?_
          exact law_formula hA hAn hst C0 t0 hXh zc zs (by omega) (by omega) i hiL hL ad ma cL cI cZ o u uo hK hJ hl K
        · refine lv_tableIn (tgt := 348) (off := 309) hx hb d_L_law_39 (by decide +kernel) (by decide +kernel) (by decide +kernel) (by decide) ?_
          exact law_assertion hA hAn hst C0 t0 hXh zc zs (by omega) (by omega) i hiL hL ad ma cL cI cZ o u uo hK hJ hl K
        · refine lv_tableIn (tgt := 404) (off := 365) hx hb d_L_law_39 (by decide +kernel) (by decide +kernel) (by decide +kernel) (by decide) ?_
          exact law_push hA hAn hst C0 t0 hXh zc zs (by omega) (by omega) i hiL hL ad ma cL cI cZ o u uo hK hJ hl K
        · refine lv_tableIn (tgt := 448) (off := 409) hx hb d_L_law_39 (by decide +kernel) (by decide +kernel) (by decide +kernel) (by decide) ?_
          exact law_pop hA hAn hst C0 t0 hXh zc zs (by omega) (by omega) i hiL hL ad ma cL cI cZ o u uo hK hJ hl K
        · refine lv_tableIn (tgt := 492) (off := 453) hx hb d_L_law_39 (by decide +kernel) (by decide +kernel) (by decide +kernel) (by decide) ?_
          exact law_check hA hAn hst C0 t0 hXh zc zs (by omega) (by omega) i hiL hL ad ma cL cI cZ o u uo hK hJ hl K
        · refine lv_tableIn (tgt := 505) (off := 466) hx hb d_L_law_39 (by decide +kernel) (by decide +kernel) (by decide +kernel) (by decide) ?_
          exact law_value hA hAn hst C0 t0 hXh zc zs (by omega) (by omega) i hiL hL ad ma cL cI cZ o u uo hK hJ hl K
        · refine lv_tableIn (tgt := 561) (off := 522) hx hb d_L_law_39 (by decide +kernel) (by decide +kernel) (by decide +kernel) (by decide) ?_
          exact law_valueOf hA hAn hst C0 t0 hXh zc zs (by omega) (by omega) i hiL hL ad ma cL cI cZ o u uo hK hJ hl K
        · refine lv_tableIn (tgt := 617) (off := 578) hx hb d_L_law_39 (by decide +kernel) (by decide +kernel) (by decide +kernel) (by decide) ?_
          exact law_entailed hA hAn hst C0 t0 hXh zc zs (by omega) (by omega) i hiL hL ad ma cL cI cZ o u uo hK hJ hl K
        · refine lv_tableIn (tgt := 673) (off := 634) hx hb d_L_law_39 (by decide +kernel) (by decide +kernel) (by decide +kernel) (by decide) ?_
          exact law_fixed hA hAn hst C0 t0 hXh zc zs (by omega) (by omega) i hiL hL ad ma cL cI cZ o u uo hK hJ hl K
        · refine lv_tableIn (tgt := 729) (off := 690) hx hb d_L_law_39 (by decide +kernel) (by decide +kernel) (by decide +kernel) (by decide) ?_
          exact law_least hA hAn hst C0 t0 hXh zc zs (by omega) (by omega) i hiL hL ad ma cL cI cZ o u uo hK hJ hl K
        · refine lv_tableIn (tgt := 785) (off := 746) hx hb d_L_law_39 (by decide +kernel) (by decide +kernel) (by decide +kernel) (by decide) ?_
          exact law_assume hA hAn hst C0 t0 hXh zc zs (by omega) (by omega) i hiL hL ad ma cL cI cZ o u uo hK hJ hl K
        · refine lv_tableIn (tgt := 841) (off := 802) hx hb d_L_law_39 (by decide +kernel) (by decide +kernel) (by decide +kernel) (by decide) ?_
          exact law_clear hA hAn hst C0 t0 hXh zc zs (by omega) (by omega) i hiL hL ad ma cL cI cZ o u uo hK hJ hl K
        · refine lv_tableIn (tgt := 854) (off := 815) hx hb d_L_law_39 (by decide +kernel) (by decide +kernel) (by decide +kernel) (by decide) ?_
          exact law_attempt hA hAn hst C0 t0 hXh zc zs (by omega) (by omega) i hiL hL ad ma cL cI cZ o u uo hK hJ hl K
        · refine lv_tableIn (tgt := 867) (off := 828) hx hb d_L_law_39 (by decide +kernel) (by decide +kernel) (by decide +kernel) (by decide) ?_
          exact law_blame hA hAn hst C0 t0 hXh zc zs (by omega) (by omega) i hiL hL ad ma cL cI cZ o u uo hK hJ hl K
        · refine lv_tableIn (tgt := 911) (off := 872) hx hb d_L_law_39 (by decide +kernel) (by decide +kernel) (by decide +kernel) (by decide) ?_
          exact law_count hA hAn hst C0 t0 hXh zc zs (by omega) (by omega) i hiL hL ad ma cL cI cZ o u uo hK hJ hl K
