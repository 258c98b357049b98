theorem pW_le {nv nb nt nf na lv nm : Nat} {vw vp tw ab am : Nat → Nat} (hok : Bok nv nb nt nf na lv nm vw vp tw ab am) (kd ka kb kc : Int32) : pW nv nt nf vw tw kd ka kb kc ≤ 4 := by
  obtain ⟨o_nv, o_nb, o_nt, o_nf, o_na, o_lv, o_nm, o_vw, o_tw, o_am, o_ab⟩ := id hok
  unfold pW
  split
  · generalize kd.toInt.toNat = k
    have hc := fun x y => cW_le (nt := nt) (tw := tw) o_tw (by omega) x y
    have ht := fun x => tW_le (nt := nt) (tw := tw) o_tw (by omega) x
    unfold pWk
    split
    · split
      · rename_i q
        have := of_decide_eq_true q.1
        omega
      · omega
    · split
      · rename_i q
        obtain ⟨j, hj, rfl⟩ := hasB_nat q
        rw [nI_toInt (by omega)]
        exact (o_vw j hj).2.1
      · omega
    · exact hc _ _
    · exact hc _ _
    · exact hc _ _
    · exact hc _ _
    · exact hc _ _
    · exact hc _ _
    · exact ht _
    · split
      · exact ht _
      · omega
    · split
      · exact ht _
      · omega
    · split
      · exact ht _
      · omega
    · split
      · exact hc _ _
      · omega
    · unfold jW
      split
      · split
        · rename_i q; exact q.2
        · omega
      · omega
    · split
      · rename_i q
        have := ht ka
        omega
      · omega
    · omega
  · omega
def LJ (D : va_G) (A : Nat → Prop) (s : State) (ad ma : Nat → Nat) (cL cI cZ : ClassId) (o : Nat) (H : Heap) (locs : List Loc) : Prop := ∃ (nv nb nt nf na lv nm : Nat) (vw vp tw ab am : Nat → Nat) (w : Nat → Int64) (th : Nat) (tk ta : Nat → Nat) (tb tc : Nat → Int32) (fk fa : Nat → Nat) (fb : Nat → Int32) (od sd aa vl : Nat → Nat) (ho : Nat → Bool) (fo : Nat → Int64), Rel nv nb nt nf na lv nm vw vp tw ab am w tk ta tb tc fk fa fb od sd aa vl ∧ va_P D cls (lW ad cL cI nv nb nt nf na lv nm vw vp tw ab am w ma cZ th nv nb nt nf na lv nm vw tk ta tb tc tw fk fa fb od sd aa am vl ho o fo) H ∧ va_D A (lW ad cL cI nv nb nt nf na lv nm vw vp tw ab am w ma cZ th nv nb nt nf na lv nm vw tk ta tb tc tw fk fa fb od sd aa am vl ho o fo) ∧ va_S A s.heap H locs
set_option maxHeartbeats 4000000 in
set_option maxRecDepth 100000 in
theorem law_variable {p : Program} {l : Launch} {e : Env} {s : State} {m : MethodId} {below : List Frame} {meth : Method} {c : Code} {D : va_G} {b L : Nat} {xs : Nat → Int32} {A : Nat → Prop} (hA : ∀ q : Nat, s.heap.size ≤ q → A q) (hAn : ∀ q : Nat, A q → s.heap.size ≤ q) (hst : l.stackTraces = false) (C0 : lw_At p s m meth c b L xs) (t0 : Nat) (hXh : Xh s.heap.size t0 s) (zc zs : Nat) (hkc : zc + 1 ≤ 601024) (hks : zs + 6 ≤ 7293034) (i : Nat) (hiL : i + 5 ≤ L) (hL : L ≤ 2560) (ad ma : Nat → Nat) (cL cI cZ : ClassId) (o : Nat) (u : ∀ i, i < 9 → s.heap.size ≤ ad i) (uo : s.heap.size ≤ o) (hK : va_K D cls [(cL, .long), (cI, .int), (cZ, .boolean)] s) {H : Heap} {locs : List Loc} (hJ : LJ D A s ad ma cL cI cZ o H locs) {ls : Array Slot} (hl : lv_has ls 7 [(0, .ref b), (1, .ref (ad 0)), (2, .ref (ma 0)), (3, .ref o), (4, .int (nI i))]) (kk : ∀ (H1 : Heap) (locs1 : List Loc) (ls1 : Array Slot), LJ D A s ad ma cL cI cZ o H1 locs1 → lv_has ls1 7 [(0, .ref b), (1, .ref (ad 0)), (2, .ref (ma 0)), (3, .ref o), (4, .int (nI i))] → W p l e room_1 s m #[Value.ref b] below meth c H1 locs1 (zc + 1) (zs + 6) (lw_Z below #[Value.ref b] s) (F0 m 967 ls1 [])) : W p l e room_1 s m #[Value.ref b] below meth c H locs zc zs (lw_Z below #[Value.ref b] s) (F0 m 120 ls []) := by
  obtain ⟨nv, nb, nt, nf, na, lv, nm, vw, vp, tw, ab, am, w, th, tk, ta, tb, tc, fk, fa, fb, od, sd, aa, vl, ho, fo, hR, hP, hD, hS⟩ := hJ
  have hok := hR.1
  have hmk := hR.2.1
  obtain ⟨o_nv, o_nb, o_nt, o_nf, o_na, o_lv, o_nm, o_vw, o_tw, o_am, o_sd, o_T, o_F, o_od, o_vl⟩ := id hmk
  by_cases hw : wdB (xs (i + 1)) = true
  · obtain ⟨wd, h1, h4, e1⟩ := wdB_nat hw
    by_cases hn : nv < 6 ∧ nb + wd ≤ 10
    · skip
      exact lp_variable_0 hA hAn hst C0 t0 hXh zc zs hkc hks i hiL hL ad cL cI nv nb nt nf na lv nm vw vp tw ab am w ma cZ th tk ta tb tc fk fa fb od sd aa vl ho o fo u uo hok hmk wd h1 h4 hn.1 hn.2 e1 hK hP hD hS hl (fun H1 locs1 ls1 hP hD hS hl => kk H1 locs1 ls1 ⟨_, _, _, _, _, _, _, _, _, _, _, _, _, _, _, _, _, _, _, _, _, _, _, _, _, _, _, Rel_variable hR h1 h4 hn.1 hn.2, hP, hD, hS⟩ hl)
    · skip
      exact lp_variable_2 hA hAn hst C0 t0 hXh zc zs hkc hks i hiL hL ad cL cI nv nb nt nf na lv nm vw vp tw ab am w ma cZ th tk ta tb tc fk fa fb od sd aa vl ho o fo u uo hok hmk wd h1 h4 (by omega) e1 hK hP hD hS hl (fun H1 locs1 ls1 hP hD hS hl => kk H1 locs1 ls1 ⟨_, _, _, _, _, _, _, _, _, _, _, _, _, _, _, _, _, _, _, _, _, _, _, _, _, _, _, hR, hP, hD, hS⟩ hl)
  · skip
    exact lp_variable_1 hA hAn hst C0 t0 hXh zc zs hkc hks i hiL hL ad cL cI nv nb nt nf na lv nm vw vp tw ab am w ma cZ th tk ta tb tc fk fa fb od sd aa vl ho o fo u uo hok hmk (xs (i + 1)) (Bool.eq_false_iff.mpr hw) rfl hK hP hD hS hl (fun H1 locs1 ls1 hP hD hS hl => kk H1 locs1 ls1 ⟨_, _, _, _, _, _, _, _, _, _, _, _, _, _, _, _, _, _, _, _, _, _, _, _, _, _, _, hR, hP, hD, hS⟩ hl)
set_option maxHeartbeats 4000000 in
set_option maxRecDepth 100000 in
theorem law_term {p : Program} {l : Launch} {e : Env} {s : State} {m : MethodId} {below : List Frame} {meth : Method} {c : Code} {D : va_G} {b L : Nat} {xs : Nat → Int32} {A : Nat → Prop} (hA : ∀ q : Nat, s.heap.size ≤ q → A q) (hAn : ∀ q : Nat, A q → s.heap.size ≤ q) (hst : l.stackTraces = false) (C0 : lw_At p s m meth c b L xs) (t0 : Nat) (hXh : Xh s.heap.size t0 s) (zc zs : Nat) (hkc : zc + 1 ≤ 601024) (hks : zs + 6 ≤ 7293034) (i : Nat) (hiL : i + 5 ≤ L) (hL : L ≤ 2560) (ad ma : Nat → Nat) (cL cI cZ : ClassId) (o : Nat) (u : ∀ i, i < 9 → s.heap.size ≤ ad i) (uo : s.heap.size ≤ o) (hK : va_K D cls [(cL, .long), (cI, .int), (cZ, .boolean)] s) {H : Heap} {locs : List Loc} (hJ : LJ D A s ad ma cL cI cZ o H locs) {ls : Array Slot} (hl : lv_has ls 7 [(0, .ref b), (1, .ref (ad 0)), (2, .ref (ma 0)), (3, .ref o), (4, .int (nI i))]) (kk : ∀ (H1 : Heap) (locs1 : List Loc) (ls1 : Array Slot), LJ D A s ad ma cL cI cZ o H1 locs1 → lv_has ls1 7 [(0, .ref b), (1, .ref (ad 0)), (2, .ref (ma 0)), (3, .ref o), (4, .int (nI i))] → W p l e room_1 s m #[Value.ref b] below meth c H1 locs1 (zc + 1) (zs + 6) (lw_Z below #[Value.ref b] s) (F0 m 967 ls1 [])) : W p l e room_1 s m #[Value.ref b] below meth c H locs zc zs (lw_Z below #[Value.ref b] s) (F0 m 176 ls []) := by
  obtain ⟨nv, nb, nt, nf, na, lv, nm, vw, vp, tw, ab, am, w, th, tk, ta, tb, tc, fk, fa, fb, od, sd, aa, vl, ho, fo, hR, hP, hD, hS⟩ := hJ
  have hok := hR.1
  have hmk := hR.2.1
  obtain ⟨o_nv, o_nb, o_nt, o_nf, o_na, o_lv, o_nm, o_vw, o_tw, o_am, o_sd, o_T, o_F, o_od, o_vl⟩ := id hmk
  have h4 := pW_le hok (xs (i + 1)) (xs (i + 2)) (xs (i + 3)) (xs (i + 4))
  by_cases hz : pW nv nt nf vw tw (xs (i + 1)) (xs (i + 2)) (xs (i + 3)) (xs (i + 4)) = 0
  · skip
    exact lp_term_1 hA hAn hst C0 t0 hXh zc zs hkc hks i hiL hL ad cL cI nv nb nt nf na lv nm vw vp tw ab am w ma cZ th tk ta tb tc fk fa fb od sd aa vl ho o fo u uo hok hmk (xs (i + 1)) (xs (i + 2)) (xs (i + 3)) (xs (i + 4)) hz rfl rfl rfl rfl hK hP hD hS hl (fun H1 locs1 ls1 hP hD hS hl => kk H1 locs1 ls1 ⟨_, _, _, _, _, _, _, _, _, _, _, _, _, _, _, _, _, _, _, _, _, _, _, _, _, _, _, hR, hP, hD, hS⟩ hl)
  · have h1 : 1 ≤ pW nv nt nf vw tw (xs (i + 1)) (xs (i + 2)) (xs (i + 3)) (xs (i + 4)) := by omega
    by_cases hn : nt < 50
    · obtain ⟨k, a, hk, e1, ha31, e2, hd⟩ := dT_of ⟨by omega, by omega, by omega⟩ o_tw rfl h1
      have hw : pW nv nt nf vw tw (nI k) (nI a) (xs (i + 3)) (xs (i + 4)) = pW nv nt nf vw tw (xs (i + 1)) (xs (i + 2)) (xs (i + 3)) (xs (i + 4)) := by rw [e1, e2]
      exact lp_term_0 hA hAn hst C0 t0 hXh zc zs hkc hks i hiL hL ad cL cI nv nb nt nf na lv nm vw vp tw ab am w ma cZ th tk ta tb tc fk fa fb od sd aa vl ho o fo u uo hok hmk k a (xs (i + 3)) (xs (i + 4)) _ hk ha31 h1 h4 hn hw hd e1 e2 rfl rfl hK hP hD hS hl (fun H1 locs1 ls1 hP hD hS hl => kk H1 locs1 ls1 ⟨_, _, _, _, _, _, _, _, _, _, _, _, _, _, _, _, _, _, _, _, _, _, _, _, _, _, _, Rel_term hR ha31 h1 h4 hn hd, hP, hD, hS⟩ hl)
    · skip
      exact lp_term_2 hA hAn hst C0 t0 hXh zc zs hkc hks i hiL hL ad cL cI nv nb nt nf na lv nm vw vp tw ab am w ma cZ th tk ta tb tc fk fa fb od sd aa vl ho o fo u uo hok hmk (xs (i + 1)) (xs (i + 2)) (xs (i + 3)) (xs (i + 4)) _ rfl h1 h4 (by omega) rfl rfl rfl rfl hK hP hD hS hl (fun H1 locs1 ls1 hP hD hS hl => kk H1 locs1 ls1 ⟨_, _, _, _, _, _, _, _, _, _, _, _, _, _, _, _, _, _, _, _, _, _, _, _, _, _, _, hR, hP, hD, hS⟩ hl)
set_option maxHeartbeats 4000000 in
set_option maxRecDepth 100000 in
theorem law_formula {p : Program} {l : Launch} {e : Env} {s : State} {m : MethodId} {below : List Frame} {meth : Method} {c : Code} {D : va_G} {b L : Nat} {xs : Nat → Int32} {A : Nat → Prop} (hA : ∀ q : Nat, s.heap.size ≤ q → A q) (hAn : ∀ q : Nat, A q → s.heap.size ≤ q) (hst : l.stackTraces = false) (C0 : lw_At p s m meth c b L xs) (t0 : Nat) (hXh : Xh s.heap.size t0 s) (zc zs : Nat) (hkc : zc + 1 ≤ 601024) (hks : zs + 6 ≤ 7293034) (i : Nat) (hiL : i + 5 ≤ L) (hL : L ≤ 2560) (ad ma : Nat → Nat) (cL cI cZ : ClassId) (o : Nat) (u : ∀ i, i < 9 → s.heap.size ≤ ad i) (uo : s.heap.size ≤ o) (hK : va_K D cls [(cL, .long), (cI, .int), (cZ, .boolean)] s) {H : Heap} {locs : List Loc} (hJ : LJ D A s ad ma cL cI cZ o H locs) {ls : Array Slot} (hl : lv_has ls 7 [(0, .ref b), (1, .ref (ad 0)), (2, .ref (ma 0)), (3, .ref o), (4, .int (nI i))]) (kk : ∀ (H1 : Heap) (locs1 : List Loc) (ls1 : Array Slot), LJ D A s ad ma cL cI cZ o H1 locs1 → lv_has ls1 7 [(0, .ref b), (1, .ref (ad 0)), (2, .ref (ma 0)), (3, .ref o), (4, .int (nI i))] → W p l e room_1 s m #[Value.ref b] below meth c H1 locs1 (zc + 1) (zs + 6) (lw_Z below #[Value.ref b] s) (F0 m 967 ls1 [])) : W p l e room_1 s m #[Value.ref b] below meth c H locs zc zs (lw_Z below #[Value.ref b] s) (F0 m 268 ls []) := by
  obtain ⟨nv, nb, nt, nf, na, lv, nm, vw, vp, tw, ab, am, w, th, tk, ta, tb, tc, fk, fa, fb, od, sd, aa, vl, ho, fo, hR, hP, hD, hS⟩ := hJ
  have hok := hR.1
  have hmk := hR.2.1
  obtain ⟨o_nv, o_nb, o_nt, o_nf, o_na, o_lv, o_nm, o_vw, o_tw, o_am, o_sd, o_T, o_F, o_od, o_vl⟩ := id hmk
  by_cases hf : pF nt nf tw (xs (i + 1)) (xs (i + 2)) (xs (i + 3)) = true
  · by_cases hn : nf < 50
    · obtain ⟨k, a, hk, e1, ha31, e2, hd⟩ := dF_of ⟨by omega, by omega⟩ o_tw hf
      exact lp_formula_0 hA hAn hst C0 t0 hXh zc zs hkc hks i hiL hL ad cL cI nv nb nt nf na lv nm vw vp tw ab am w ma cZ th tk ta tb tc fk fa fb od sd aa vl ho o fo u uo hok hmk k a (xs (i + 3)) hk hn (by rw [← e1, ← e2]; exact hf) hd e1 e2 rfl hK hP hD hS hl (fun H1 locs1 ls1 hP hD hS hl => kk H1 locs1 ls1 ⟨_, _, _, _, _, _, _, _, _, _, _, _, _, _, _, _, _, _, _, _, _, _, _, _, _, _, _, Rel_formula hR hn hd, hP, hD, hS⟩ hl)
    · skip
      exact lp_formula_2 hA hAn hst C0 t0 hXh zc zs hkc hks i hiL hL ad cL cI nv nb nt nf na lv nm vw vp tw ab am w ma cZ th tk ta tb tc fk fa fb od sd aa vl ho o fo u uo hok hmk (xs (i + 1)) (xs (i + 2)) (xs (i + 3)) hf (by omega) rfl rfl rfl hK hP hD hS hl (fun H1 locs1 ls1 hP hD hS hl => kk H1 locs1 ls1 ⟨_, _, _, _, _, _, _, _, _, _, _, _, _, _, _, _, _, _, _, _, _, _, _, _, _, _, _, hR, hP, hD, hS⟩ hl)
  · skip
    exact lp_formula_1 hA hAn hst C0 t0 hXh zc zs hkc hks i hiL hL ad cL cI nv nb nt nf na lv nm vw vp tw ab am w ma cZ th tk ta tb tc fk fa fb od sd aa vl ho o fo u uo hok hmk (xs (i + 1)) (xs (i + 2)) (xs (i + 3)) (Bool.eq_false_iff.mpr hf) rfl rfl rfl hK hP hD hS hl (fun H1 locs1 ls1 hP hD hS hl => kk H1 locs1 ls1 ⟨_, _, _, _, _, _, _, _, _, _, _, _, _, _, _, _, _, _, _, _, _, _, _, _, _, _, _, hR, hP, hD, hS⟩ hl)
set_option maxHeartbeats 4000000 in
set_option maxRecDepth 100000 in
theorem law_assertion {p : Program} {l : Launch} {e : Env} {s : State} {m : MethodId} {below : List Frame} {meth : Method} {c : Code} {D : va_G} {b L : Nat} {xs : Nat → Int32} {A : Nat → Prop} (hA : ∀ q : Nat, s.heap.size ≤ q → A q) (hAn : ∀ q : Nat, A q → s.heap.size ≤ q) (hst : l.stackTraces = false) (C0 : lw_At p s m meth c b L xs) (t0 : Nat) (hXh : Xh s.heap.size t0 s) (zc zs : Nat) (hkc : zc + 1 ≤ 601024) (hks : zs + 6 ≤ 7293034) (i : Nat) (hiL : i + 5 ≤ L) (hL : L ≤ 2560) (ad ma : Nat → Nat) (cL cI cZ : ClassId) (o : Nat) (u : ∀ i, i < 9 → s.heap.size ≤ ad i) (uo : s.heap.size ≤ o) (hK : va_K D cls [(cL, .long), (cI, .int), (cZ, .boolean)] s) {H : Heap} {locs : List Loc} (hJ : LJ D A s ad ma cL cI cZ o H locs) {ls : Array Slot} (hl : lv_has ls 7 [(0, .ref b), (1, .ref (ad 0)), (2, .ref (ma 0)), (3, .ref o), (4, .int (nI i))]) (kk : ∀ (H1 : Heap) (locs1 : List Loc) (ls1 : Array Slot), LJ D A s ad ma cL cI cZ o H1 locs1 → lv_has ls1 7 [(0, .ref b), (1, .ref (ad 0)), (2, .ref (ma 0)), (3, .ref o), (4, .int (nI i))] → W p l e room_1 s m #[Value.ref b] below meth c H1 locs1 (zc + 1) (zs + 6) (lw_Z below #[Value.ref b] s) (F0 m 967 ls1 [])) : W p l e room_1 s m #[Value.ref b] below meth c H locs zc zs (lw_Z below #[Value.ref b] s) (F0 m 348 ls []) := by
  obtain ⟨nv, nb, nt, nf, na, lv, nm, vw, vp, tw, ab, am, w, th, tk, ta, tb, tc, fk, fa, fb, od, sd, aa, vl, ho, fo, hR, hP, hD, hS⟩ := hJ
  have hok := hR.1
  have hmk := hR.2.1
  obtain ⟨o_nv, o_nb, o_nt, o_nf, o_na, o_lv, o_nm, o_vw, o_tw, o_am, o_sd, o_T, o_F, o_od, o_vl⟩ := id hmk
  by_cases hf : hasB (xs (i + 1)) nf = true
  · by_cases hn : na < 30
    · obtain ⟨f, hf2, e1⟩ := hasB_nat hf
      exact lp_assertion_0 hA hAn hst C0 t0 hXh zc zs hkc hks i hiL hL ad cL cI nv nb nt nf na lv nm vw vp tw ab am w ma cZ th tk ta tb tc fk fa fb od sd aa vl ho o fo u uo hok hmk f hf2 hn e1 hK hP hD hS hl (fun H1 locs1 ls1 hP hD hS hl => kk H1 locs1 ls1 ⟨_, _, _, _, _, _, _, _, _, _, _, _, _, _, _, _, _, _, _, _, _, _, _, _, _, _, _, Rel_assertion hR hf2 hn, hP, hD, hS⟩ hl)
    · skip
      exact lp_assertion_2 hA hAn hst C0 t0 hXh zc zs hkc hks i hiL hL ad cL cI nv nb nt nf na lv nm vw vp tw ab am w ma cZ th tk ta tb tc fk fa fb od sd aa vl ho o fo u uo hok hmk (xs (i + 1)) hf (by omega) rfl hK hP hD hS hl (fun H1 locs1 ls1 hP hD hS hl => kk H1 locs1 ls1 ⟨_, _, _, _, _, _, _, _, _, _, _, _, _, _, _, _, _, _, _, _, _, _, _, _, _, _, _, hR, hP, hD, hS⟩ hl)
  · skip
    exact lp_assertion_1 hA hAn hst C0 t0 hXh zc zs hkc hks i hiL hL ad cL cI nv nb nt nf na lv nm vw vp tw ab am w ma cZ th tk ta tb tc fk fa fb od sd aa vl ho o fo u uo hok hmk (xs (i + 1)) (Bool.eq_false_iff.mpr hf) rfl hK hP hD hS hl (fun H1 locs1 ls1 hP hD hS hl => kk H1 locs1 ls1 ⟨_, _, _, _, _, _, _, _, _, _, _, _, _, _, _, _, _, _, _, _, _, _, _, _, _, _, _, hR, hP, hD, hS⟩ hl)
set_option maxHeartbeats 4000000 in
set_option maxRecDepth 100000 in
theorem law_assume {p : Program} {l : Launch} {e : Env} {s : State} {m : MethodId} {below : List Frame} {meth : Method} {c : Code} {D : va_G} {b L : Nat} {xs : Nat → Int32} {A : Nat → Prop} (hA : ∀ q : Nat, s.heap.size ≤ q → A q) (hAn : ∀ q : Nat, A q → s.heap.size ≤ q) (hst : l.stackTraces = false) (C0 : lw_At p s m meth c b L xs) (t0 : Nat) (hXh : Xh s.heap.size t0 s) (zc zs : Nat) (hkc : zc + 1 ≤ 601024) (hks : zs + 6 ≤ 7293034) (i : Nat) (hiL : i + 5 ≤ L) (hL : L ≤ 2560) (ad ma : Nat → Nat) (cL cI cZ : ClassId) (o : Nat) (u : ∀ i, i < 9 → s.heap.size ≤ ad i) (uo : s.heap.size ≤ o) (hK : va_K D cls [(cL, .long), (cI, .int), (cZ, .boolean)] s) {H : Heap} {locs : List Loc} (hJ : LJ D A s ad ma cL cI cZ o H locs) {ls : Array Slot} (hl : lv_has ls 7 [(0, .ref b), (1, .ref (ad 0)), (2, .ref (ma 0)), (3, .ref o), (4, .int (nI i))]) (kk : ∀ (H1 : Heap) (locs1 : List Loc) (ls1 : Array Slot), LJ D A s ad ma cL cI cZ o H1 locs1 → lv_has ls1 7 [(0, .ref b), (1, .ref (ad 0)), (2, .ref (ma 0)), (3, .ref o), (4, .int (nI i))] → W p l e room_1 s m #[Value.ref b] below meth c H1 locs1 (zc + 1) (zs + 6) (lw_Z below #[Value.ref b] s) (F0 m 967 ls1 [])) : W p l e room_1 s m #[Value.ref b] below meth c H locs zc zs (lw_Z below #[Value.ref b] s) (F0 m 785 ls []) := by
  obtain ⟨nv, nb, nt, nf, na, lv, nm, vw, vp, tw, ab, am, w, th, tk, ta, tb, tc, fk, fa, fb, od, sd, aa, vl, ho, fo, hR, hP, hD, hS⟩ := hJ
  have hok := hR.1
  have hmk := hR.2.1
  obtain ⟨o_nv, o_nb, o_nt, o_nf, o_na, o_lv, o_nm, o_vw, o_tw, o_am, o_sd, o_T, o_F, o_od, o_vl⟩ := id hmk
  by_cases hf : hasB (xs (i + 1)) nf = true
  · by_cases hn : nm < 8
    · obtain ⟨f, hf2, e1⟩ := hasB_nat hf
      exact lp_assume_0 hA hAn hst C0 t0 hXh zc zs hkc hks i hiL hL ad cL cI nv nb nt nf na lv nm vw vp tw ab am w ma cZ th tk ta tb tc fk fa fb od sd aa vl ho o fo u uo hok hmk f hf2 hn e1 hK hP hD hS hl (fun H1 locs1 ls1 hP hD hS hl => kk H1 locs1 ls1 ⟨_, _, _, _, _, _, _, _, _, _, _, _, _, _, _, _, _, _, _, _, _, _, _, _, _, _, _, Rel_assume hR hf2 hn, hP, hD, hS⟩ hl)
    · skip
      exact lp_assume_2 hA hAn hst C0 t0 hXh zc zs hkc hks i hiL hL ad cL cI nv nb nt nf na lv nm vw vp tw ab am w ma cZ th tk ta tb tc fk fa fb od sd aa vl ho o fo u uo hok hmk (xs (i + 1)) hf (by omega) rfl hK hP hD hS hl (fun H1 locs1 ls1 hP hD hS hl => kk H1 locs1 ls1 ⟨_, _, _, _, _, _, _, _, _, _, _, _, _, _, _, _, _, _, _, _, _, _, _, _, _, _, _, hR, hP, hD, hS⟩ hl)
  · skip
    exact lp_assume_1 hA hAn hst C0 t0 hXh zc zs hkc hks i hiL hL ad cL cI nv nb nt nf na lv nm vw vp tw ab am w ma cZ th tk ta tb tc fk fa fb od sd aa vl ho o fo u uo hok hmk (xs (i + 1)) (Bool.eq_false_iff.mpr hf) rfl hK hP hD hS hl (fun H1 locs1 ls1 hP hD hS hl => kk H1 locs1 ls1 ⟨_, _, _, _, _, _, _, _, _, _, _, _, _, _, _, _, _, _, _, _, _, _, _, _, _, _, _, hR, hP, hD, hS⟩ hl)
set_option maxHeartbeats 4000000 in
set_option maxRecDepth 100000 in
theorem law_push {p : Program} {l : Launch} {e : Env} {s : State} {m : MethodId} {below : List Frame} {meth : Method} {c : Code} {D : va_G} {b L : Nat} {xs : Nat → Int32} {A : Nat → Prop} (hA : ∀ q : Nat, s.heap.size ≤ q → A q) (hAn : ∀ q : Nat, A q → s.heap.size ≤ q) (hst : l.stackTraces = false) (C0 : lw_At p s m meth c b L xs) (t0 : Nat) (hXh : Xh s.heap.size t0 s) (zc zs : Nat) (hkc : zc + 1 ≤ 601024) (hks : zs + 6 ≤ 7293034) (i : Nat) (hiL : i + 5 ≤ L) (hL : L ≤ 2560) (ad ma : Nat → Nat) (cL cI cZ : ClassId) (o : Nat) (u : ∀ i, i < 9 → s.heap.size ≤ ad i) (uo : s.heap.size ≤ o) (hK : va_K D cls [(cL, .long), (cI, .int), (cZ, .boolean)] s) {H : Heap} {locs : List Loc} (hJ : LJ D A s ad ma cL cI cZ o H locs) {ls : Array Slot} (hl : lv_has ls 7 [(0, .ref b), (1, .ref (ad 0)), (2, .ref (ma 0)), (3, .ref o), (4, .int (nI i))]) (kk : ∀ (H1 : Heap) (locs1 : List Loc) (ls1 : Array Slot), LJ D A s ad ma cL cI cZ o H1 locs1 → lv_has ls1 7 [(0, .ref b), (1, .ref (ad 0)), (2, .ref (ma 0)), (3, .ref o), (4, .int (nI i))] → W p l e room_1 s m #[Value.ref b] below meth c H1 locs1 (zc + 1) (zs + 6) (lw_Z below #[Value.ref b] s) (F0 m 967 ls1 [])) : W p l e room_1 s m #[Value.ref b] below meth c H locs zc zs (lw_Z below #[Value.ref b] s) (F0 m 404 ls []) := by
  obtain ⟨nv, nb, nt, nf, na, lv, nm, vw, vp, tw, ab, am, w, th, tk, ta, tb, tc, fk, fa, fb, od, sd, aa, vl, ho, fo, hR, hP, hD, hS⟩ := hJ
  have hok := hR.1
  have hmk := hR.2.1
  obtain ⟨o_nv, o_nb, o_nt, o_nf, o_na, o_lv, o_nm, o_vw, o_tw, o_am, o_sd, o_T, o_F, o_od, o_vl⟩ := id hmk
  by_cases hn : lv < 5
  · skip
    exact lp_push_0 hA hAn hst C0 t0 hXh zc zs hkc hks i hiL hL ad cL cI nv nb nt nf na lv nm vw vp tw ab am w ma cZ th tk ta tb tc fk fa fb od sd aa vl ho o fo u uo hok hmk hn hK hP hD hS hl (fun H1 locs1 ls1 hP hD hS hl => kk H1 locs1 ls1 ⟨_, _, _, _, _, _, _, _, _, _, _, _, _, _, _, _, _, _, _, _, _, _, _, _, _, _, _, Rel_push hR hn, hP, hD, hS⟩ hl)
  · skip
    exact lp_push_1 hA hAn hst C0 t0 hXh zc zs hkc hks i hiL hL ad cL cI nv nb nt nf na lv nm vw vp tw ab am w ma cZ th tk ta tb tc fk fa fb od sd aa vl ho o fo u uo hok hmk (by omega) hK hP hD hS hl (fun H1 locs1 ls1 hP hD hS hl => kk H1 locs1 ls1 ⟨_, _, _, _, _, _, _, _, _, _, _, _, _, _, _, _, _, _, _, _, _, _, _, _, _, _, _, hR, hP, hD, hS⟩ hl)
set_option maxHeartbeats 4000000 in
set_option maxRecDepth 100000 in
theorem law_pop {p : Program} {l : Launch} {e : Env} {s : State} {m : MethodId} {below : List Frame} {meth : Method} {c : Code} {D : va_G} {b L : Nat} {xs : Nat → Int32} {A : Nat → Prop} (hA : ∀ q : Nat, s.heap.size ≤ q → A q) (hAn : ∀ q : Nat, A q → s.heap.size ≤ q) (hst : l.stackTraces = false) (C0 : lw_At p s m meth c b L xs) (t0 : Nat) (hXh : Xh s.heap.size t0 s) (zc zs : Nat) (hkc : zc + 1 ≤ 601024) (hks : zs + 6 ≤ 7293034) (i : Nat) (hiL : i + 5 ≤ L) (hL : L ≤ 2560) (ad ma : Nat → Nat) (cL cI cZ : ClassId) (o : Nat) (u : ∀ i, i < 9 → s.heap.size ≤ ad i) (uo : s.heap.size ≤ o) (hK : va_K D cls [(cL, .long), (cI, .int), (cZ, .boolean)] s) {H : Heap} {locs : List Loc} (hJ : LJ D A s ad ma cL cI cZ o H locs) {ls : Array Slot} (hl : lv_has ls 7 [(0, .ref b), (1, .ref (ad 0)), (2, .ref (ma 0)), (3, .ref o), (4, .int (nI i))]) (kk : ∀ (H1 : Heap) (locs1 : List Loc) (ls1 : Array Slot), LJ D A s ad ma cL cI cZ o H1 locs1 → lv_has ls1 7 [(0, .ref b), (1, .ref (ad 0)), (2, .ref (ma 0)), (3, .ref o), (4, .int (nI i))] → W p l e room_1 s m #[Value.ref b] below meth c H1 locs1 (zc + 1) (zs + 6) (lw_Z below #[Value.ref b] s) (F0 m 967 ls1 [])) : W p l e room_1 s m #[Value.ref b] below meth c H locs zc zs (lw_Z below #[Value.ref b] s) (F0 m 448 ls []) := by
  obtain ⟨nv, nb, nt, nf, na, lv, nm, vw, vp, tw, ab, am, w, th, tk, ta, tb, tc, fk, fa, fb, od, sd, aa, vl, ho, fo, hR, hP, hD, hS⟩ := hJ
  have hok := hR.1
  have hmk := hR.2.1
  obtain ⟨o_nv, o_nb, o_nt, o_nf, o_na, o_lv, o_nm, o_vw, o_tw, o_am, o_sd, o_T, o_F, o_od, o_vl⟩ := id hmk
  by_cases hn : 0 < lv
  · obtain ⟨hR2, hz, g1, g2, g3⟩ := Rel_pop hR hn
    exact lp_pop_0 hA hAn hst C0 t0 hXh zc zs hkc hks i hiL hL ad cL cI nv nb nt nf na lv nm vw vp tw ab am w ma cZ th tk ta tb tc fk fa fb od sd aa vl ho o fo u uo hok hmk hn g1 g2 g3 hz hK hP hD hS hl (fun H1 locs1 ls1 hP hD hS hl => kk H1 locs1 ls1 ⟨_, _, _, _, _, _, _, _, _, _, _, _, _, _, _, _, _, _, _, _, _, _, _, _, _, _, _, hR2, hP, hD, hS⟩ hl)
  · skip
    exact lp_pop_1 hA hAn hst C0 t0 hXh zc zs hkc hks i hiL hL ad cL cI nv nb nt nf na lv nm vw vp tw ab am w ma cZ th tk ta tb tc fk fa fb od sd aa vl ho o fo u uo hok hmk (by omega) hK hP hD hS hl (fun H1 locs1 ls1 hP hD hS hl => kk H1 locs1 ls1 ⟨_, _, _, _, _, _, _, _, _, _, _, _, _, _, _, _, _, _, _, _, _, _, _, _, _, _, _, hR, hP, hD, hS⟩ hl)
set_option maxHeartbeats 4000000 in
set_option maxRecDepth 100000 in
theorem law_check {p : Program} {l : Launch} {e : Env} {s : State} {m : MethodId} {below : List Frame} {meth : Method} {c : Code} {D : va_G} {b L : Nat} {xs : Nat → Int32} {A : Nat → Prop} (hA : ∀ q : Nat, s.heap.size ≤ q → A q) (hAn : ∀ q : Nat, A q → s.heap.size ≤ q) (hst : l.stackTraces = false) (C0 : lw_At p s m meth c b L xs) (t0 : Nat) (hXh : Xh s.heap.size t0 s) (zc zs : Nat) (hkc : zc + 1 ≤ 601024) (hks : zs + 6 ≤ 7293034) (i : Nat) (hiL : i + 5 ≤ L) (hL : L ≤ 2560) (ad ma : Nat → Nat) (cL cI cZ : ClassId) (o : Nat) (u : ∀ i, i < 9 → s.heap.size ≤ ad i) (uo : s.heap.size ≤ o) (hK : va_K D cls [(cL, .long), (cI, .int), (cZ, .boolean)] s) {H : Heap} {locs : List Loc} (hJ : LJ D A s ad ma cL cI cZ o H locs) {ls : Array Slot} (hl : lv_has ls 7 [(0, .ref b), (1, .ref (ad 0)), (2, .ref (ma 0)), (3, .ref o), (4, .int (nI i))]) (kk : ∀ (H1 : Heap) (locs1 : List Loc) (ls1 : Array Slot), LJ D A s ad ma cL cI cZ o H1 locs1 → lv_has ls1 7 [(0, .ref b), (1, .ref (ad 0)), (2, .ref (ma 0)), (3, .ref o), (4, .int (nI i))] → W p l e room_1 s m #[Value.ref b] below meth c H1 locs1 (zc + 1) (zs + 6) (lw_Z below #[Value.ref b] s) (F0 m 967 ls1 [])) : W p l e room_1 s m #[Value.ref b] below meth c H locs zc zs (lw_Z below #[Value.ref b] s) (F0 m 492 ls []) := by
  obtain ⟨nv, nb, nt, nf, na, lv, nm, vw, vp, tw, ab, am, w, th, tk, ta, tb, tc, fk, fa, fb, od, sd, aa, vl, ho, fo, hR, hP, hD, hS⟩ := hJ
  have hok := hR.1
  have hmk := hR.2.1
  obtain ⟨o_nv, o_nb, o_nt, o_nf, o_na, o_lv, o_nm, o_vw, o_tw, o_am, o_sd, o_T, o_F, o_od, o_vl⟩ := id hmk
  exact lp_check_0 hA hAn hst C0 t0 hXh zc zs hkc hks i hiL hL ad cL cI nv nb nt nf na lv nm vw vp tw ab am w ma cZ th tk ta tb tc fk fa fb od sd aa vl ho o fo u uo hok hmk (check_eq hR (vl, ho)) hK hP hD hS hl (fun H1 locs1 ls1 hP hD hS hl => kk H1 locs1 ls1 ⟨_, _, _, _, _, _, _, _, _, _, _, _, _, _, _, _, _, _, _, _, _, _, _, _, _, _, _, Rel_vl hR (nxF_lt hmk _ _ _ (vl, ho) o_vl), hP, hD, hS⟩ hl)
set_option maxHeartbeats 4000000 in
set_option maxRecDepth 100000 in
theorem law_clear {p : Program} {l : Launch} {e : Env} {s : State} {m : MethodId} {below : List Frame} {meth : Method} {c : Code} {D : va_G} {b L : Nat} {xs : Nat → Int32} {A : Nat → Prop} (hA : ∀ q : Nat, s.heap.size ≤ q → A q) (hAn : ∀ q : Nat, A q → s.heap.size ≤ q) (hst : l.stackTraces = false) (C0 : lw_At p s m meth c b L xs) (t0 : Nat) (hXh : Xh s.heap.size t0 s) (zc zs : Nat) (hkc : zc + 1 ≤ 601024) (hks : zs + 6 ≤ 7293034) (i : Nat) (hiL : i + 5 ≤ L) (hL : L ≤ 2560) (ad ma : Nat → Nat) (cL cI cZ : ClassId) (o : Nat) (u : ∀ i, i < 9 → s.heap.size ≤ ad i) (uo : s.heap.size ≤ o) (hK : va_K D cls [(cL, .long), (cI, .int), (cZ, .boolean)] s) {H : Heap} {locs : List Loc} (hJ : LJ D A s ad ma cL cI cZ o H locs) {ls : Array Slot} (hl : lv_has ls 7 [(0, .ref b), (1, .ref (ad 0)), (2, .ref (ma 0)), (3, .ref o), (4, .int (nI i))]) (kk : ∀ (H1 : Heap) (locs1 : List Loc) (ls1 : Array Slot), LJ D A s ad ma cL cI cZ o H1 locs1 → lv_has ls1 7 [(0, .ref b), (1, .ref (ad 0)), (2, .ref (ma 0)), (3, .ref o), (4, .int (nI i))] → W p l e room_1 s m #[Value.ref b] below meth c H1 locs1 (zc + 1) (zs + 6) (lw_Z below #[Value.ref b] s) (F0 m 967 ls1 [])) : W p l e room_1 s m #[Value.ref b] below meth c H locs zc zs (lw_Z below #[Value.ref b] s) (F0 m 841 ls []) := by
  obtain ⟨nv, nb, nt, nf, na, lv, nm, vw, vp, tw, ab, am, w, th, tk, ta, tb, tc, fk, fa, fb, od, sd, aa, vl, ho, fo, hR, hP, hD, hS⟩ := hJ
  have hok := hR.1
  have hmk := hR.2.1
  obtain ⟨o_nv, o_nb, o_nt, o_nf, o_na, o_lv, o_nm, o_vw, o_tw, o_am, o_sd, o_T, o_F, o_od, o_vl⟩ := id hmk
  exact lp_clear_0 hA hAn hst C0 t0 hXh zc zs hkc hks i hiL hL ad cL cI nv nb nt nf na lv nm vw vp tw ab am w ma cZ th tk ta tb tc fk fa fb od sd aa vl ho o fo u uo hok hmk  hK hP hD hS hl (fun H1 locs1 ls1 hP hD hS hl => kk H1 locs1 ls1 ⟨_, _, _, _, _, _, _, _, _, _, _, _, _, _, _, _, _, _, _, _, _, _, _, _, _, _, _, Rel_clear hR, hP, hD, hS⟩ hl)
set_option maxHeartbeats 4000000 in
set_option maxRecDepth 100000 in
theorem law_attempt {p : Program} {l : Launch} {e : Env} {s : State} {m : MethodId} {below : List Frame} {meth : Method} {c : Code} {D : va_G} {b L : Nat} {xs : Nat → Int32} {A : Nat → Prop} (hA : ∀ q : Nat, s.heap.size ≤ q → A q) (hAn : ∀ q : Nat, A q → s.heap.size ≤ q) (hst : l.stackTraces = false) (C0 : lw_At p s m meth c b L xs) (t0 : Nat) (hXh : Xh s.heap.size t0 s) (zc zs : Nat) (hkc : zc + 1 ≤ 601024) (hks : zs + 6 ≤ 7293034) (i : Nat) (hiL : i + 5 ≤ L) (hL : L ≤ 2560) (ad ma : Nat → Nat) (cL cI cZ : ClassId) (o : Nat) (u : ∀ i, i < 9 → s.heap.size ≤ ad i) (uo : s.heap.size ≤ o) (hK : va_K D cls [(cL, .long), (cI, .int), (cZ, .boolean)] s) {H : Heap} {locs : List Loc} (hJ : LJ D A s ad ma cL cI cZ o H locs) {ls : Array Slot} (hl : lv_has ls 7 [(0, .ref b), (1, .ref (ad 0)), (2, .ref (ma 0)), (3, .ref o), (4, .int (nI i))]) (kk : ∀ (H1 : Heap) (locs1 : List Loc) (ls1 : Array Slot), LJ D A s ad ma cL cI cZ o H1 locs1 → lv_has ls1 7 [(0, .ref b), (1, .ref (ad 0)), (2, .ref (ma 0)), (3, .ref o), (4, .int (nI i))] → W p l e room_1 s m #[Value.ref b] below meth c H1 locs1 (zc + 1) (zs + 6) (lw_Z below #[Value.ref b] s) (F0 m 967 ls1 [])) : W p l e room_1 s m #[Value.ref b] below meth c H locs zc zs (lw_Z below #[Value.ref b] s) (F0 m 854 ls []) := by
  obtain ⟨nv, nb, nt, nf, na, lv, nm, vw, vp, tw, ab, am, w, th, tk, ta, tb, tc, fk, fa, fb, od, sd, aa, vl, ho, fo, hR, hP, hD, hS⟩ := hJ
  have hok := hR.1
  have hmk := hR.2.1
  obtain ⟨o_nv, o_nb, o_nt, o_nf, o_na, o_lv, o_nm, o_vw, o_tw, o_am, o_sd, o_T, o_F, o_od, o_vl⟩ := id hmk
  exact lp_attempt_0 hA hAn hst C0 t0 hXh zc zs hkc hks i hiL hL ad cL cI nv nb nt nf na lv nm vw vp tw ab am w ma cZ th tk ta tb tc fk fa fb od sd aa vl ho o fo u uo hok hmk (attempt_eq hR (vl, ho)) hK hP hD hS hl (fun H1 locs1 ls1 hP hD hS hl => kk H1 locs1 ls1 ⟨_, _, _, _, _, _, _, _, _, _, _, _, _, _, _, _, _, _, _, _, _, _, _, _, _, _, _, Rel_vl (Rel_w hR (wAsm_low hR _ (fun _ _ _ _ => rfl))) (nxF_lt hmk _ _ _ (vl, ho) o_vl), hP, hD, hS⟩ hl)
set_option maxHeartbeats 4000000 in
set_option maxRecDepth 100000 in
theorem law_value {p : Program} {l : Launch} {e : Env} {s : State} {m : MethodId} {below : List Frame} {meth : Method} {c : Code} {D : va_G} {b L : Nat} {xs : Nat → Int32} {A : Nat → Prop} (hA : ∀ q : Nat, s.heap.size ≤ q → A q) (hAn : ∀ q : Nat, A q → s.heap.size ≤ q) (hst : l.stackTraces = false) (C0 : lw_At p s m meth c b L xs) (t0 : Nat) (hXh : Xh s.heap.size t0 s) (zc zs : Nat) (hkc : zc + 1 ≤ 601024) (hks : zs + 6 ≤ 7293034) (i : Nat) (hiL : i + 5 ≤ L) (hL : L ≤ 2560) (ad ma : Nat → Nat) (cL cI cZ : ClassId) (o : Nat) (u : ∀ i, i < 9 → s.heap.size ≤ ad i) (uo : s.heap.size ≤ o) (hK : va_K D cls [(cL, .long), (cI, .int), (cZ, .boolean)] s) {H : Heap} {locs : List Loc} (hJ : LJ D A s ad ma cL cI cZ o H locs) {ls : Array Slot} (hl : lv_has ls 7 [(0, .ref b), (1, .ref (ad 0)), (2, .ref (ma 0)), (3, .ref o), (4, .int (nI i))]) (kk : ∀ (H1 : Heap) (locs1 : List Loc) (ls1 : Array Slot), LJ D A s ad ma cL cI cZ o H1 locs1 → lv_has ls1 7 [(0, .ref b), (1, .ref (ad 0)), (2, .ref (ma 0)), (3, .ref o), (4, .int (nI i))] → W p l e room_1 s m #[Value.ref b] below meth c H1 locs1 (zc + 1) (zs + 6) (lw_Z below #[Value.ref b] s) (F0 m 967 ls1 [])) : W p l e room_1 s m #[Value.ref b] below meth c H locs zc zs (lw_Z below #[Value.ref b] s) (F0 m 505 ls []) := by
  obtain ⟨nv, nb, nt, nf, na, lv, nm, vw, vp, tw, ab, am, w, th, tk, ta, tb, tc, fk, fa, fb, od, sd, aa, vl, ho, fo, hR, hP, hD, hS⟩ := hJ
  have hok := hR.1
  have hmk := hR.2.1
  obtain ⟨o_nv, o_nb, o_nt, o_nf, o_na, o_lv, o_nm, o_vw, o_tw, o_am, o_sd, o_T, o_F, o_od, o_vl⟩ := id hmk
  by_cases hf : hasB (xs (i + 1)) nv = true
  · obtain ⟨z, hz, e1⟩ := hasB_nat hf
    cases hm : (!pNone w (250 + lv) (250 + lv)) with
    | true =>
      obtain ⟨n, a1, a2, a3, a4, a5⟩ := model_some hR (vl, ho) hm
      exact lp_value_0 hA hAn hst C0 t0 hXh zc zs hkc hks i hiL hL ad cL cI nv nb nt nf na lv nm vw vp tw ab am w ma cZ th tk ta tb tc fk fa fb od sd aa vl ho o fo u uo hok hmk z hz hm n a1 (value_eq hR hz a2 a3) e1 hK hP hD hS hl (fun H1 locs1 ls1 hP hD hS hl => kk H1 locs1 ls1 ⟨_, _, _, _, _, _, _, _, _, _, _, _, _, _, _, _, _, _, _, _, _, _, _, _, _, _, _, Rel_vl hR (nxF_lt hmk _ _ _ (vl, ho) o_vl), hP, hD, hS⟩ hl)
    | false =>
      have a1 := (model_none hR (vl, ho) hm).1
      exact lp_value_2 hA hAn hst C0 t0 hXh zc zs hkc hks i hiL hL ad cL cI nv nb nt nf na lv nm vw vp tw ab am w ma cZ th tk ta tb tc fk fa fb od sd aa vl ho o fo u uo hok hmk (xs (i + 1)) hf hm a1 rfl hK hP hD hS hl (fun H1 locs1 ls1 hP hD hS hl => kk H1 locs1 ls1 ⟨_, _, _, _, _, _, _, _, _, _, _, _, _, _, _, _, _, _, _, _, _, _, _, _, _, _, _, Rel_vl hR (nxF_lt hmk _ _ _ (vl, ho) o_vl), hP, hD, hS⟩ hl)
  · skip
    exact lp_value_1 hA hAn hst C0 t0 hXh zc zs hkc hks i hiL hL ad cL cI nv nb nt nf na lv nm vw vp tw ab am w ma cZ th tk ta tb tc fk fa fb od sd aa vl ho o fo u uo hok hmk (xs (i + 1)) (Bool.eq_false_iff.mpr hf) rfl hK hP hD hS hl (fun H1 locs1 ls1 hP hD hS hl => kk H1 locs1 ls1 ⟨_, _, _, _, _, _, _, _, _, _, _, _, _, _, _, _, _, _, _, _, _, _, _, _, _, _, _, hR, hP, hD, hS⟩ hl)
set_option maxHeartbeats 4000000 in
set_option maxRecDepth 100000 in
theorem law_valueOf {p : Program} {l : Launch} {e : Env} {s : State} {m : MethodId} {below : List Frame} {meth : Method} {c : Code} {D : va_G} {b L : Nat} {xs : Nat → Int32} {A : Nat → Prop} (hA : ∀ q : Nat, s.heap.size ≤ q → A q) (hAn : ∀ q : Nat, A q → s.heap.size ≤ q) (hst : l.stackTraces = false) (C0 : lw_At p s m meth c b L xs) (t0 : Nat) (hXh : Xh s.heap.size t0 s) (zc zs : Nat) (hkc : zc + 1 ≤ 601024) (hks : zs + 6 ≤ 7293034) (i : Nat) (hiL : i + 5 ≤ L) (hL : L ≤ 2560) (ad ma : Nat → Nat) (cL cI cZ : ClassId) (o : Nat) (u : ∀ i, i < 9 → s.heap.size ≤ ad i) (uo : s.heap.size ≤ o) (hK : va_K D cls [(cL, .long), (cI, .int), (cZ, .boolean)] s) {H : Heap} {locs : List Loc} (hJ : LJ D A s ad ma cL cI cZ o H locs) {ls : Array Slot} (hl : lv_has ls 7 [(0, .ref b), (1, .ref (ad 0)), (2, .ref (ma 0)), (3, .ref o), (4, .int (nI i))]) (kk : ∀ (H1 : Heap) (locs1 : List Loc) (ls1 : Array Slot), LJ D A s ad ma cL cI cZ o H1 locs1 → lv_has ls1 7 [(0, .ref b), (1, .ref (ad 0)), (2, .ref (ma 0)), (3, .ref o), (4, .int (nI i))] → W p l e room_1 s m #[Value.ref b] below meth c H1 locs1 (zc + 1) (zs + 6) (lw_Z below #[Value.ref b] s) (F0 m 967 ls1 [])) : W p l e room_1 s m #[Value.ref b] below meth c H locs zc zs (lw_Z below #[Value.ref b] s) (F0 m 561 ls []) := by
  obtain ⟨nv, nb, nt, nf, na, lv, nm, vw, vp, tw, ab, am, w, th, tk, ta, tb, tc, fk, fa, fb, od, sd, aa, vl, ho, fo, hR, hP, hD, hS⟩ := hJ
  have hok := hR.1
  have hmk := hR.2.1
  obtain ⟨o_nv, o_nb, o_nt, o_nf, o_na, o_lv, o_nm, o_vw, o_tw, o_am, o_sd, o_T, o_F, o_od, o_vl⟩ := id hmk
  by_cases hf : hasB (xs (i + 1)) nt = true
  · obtain ⟨z, hz, e1⟩ := hasB_nat hf
    cases hm : (!pNone w (250 + lv) (250 + lv)) with
    | true =>
      obtain ⟨n, a1, a2, a3, a4, a5⟩ := model_some hR (vl, ho) hm
      exact lp_valueOf_0 hA hAn hst C0 t0 hXh zc zs hkc hks i hiL hL ad cL cI nv nb nt nf na lv nm vw vp tw ab am w ma cZ th tk ta tb tc fk fa fb od sd aa vl ho o fo u uo hok hmk z hz hm n a1 (by rw [a3]; exact (a5.1 z hz).symm) e1 hK hP hD hS hl (fun H1 locs1 ls1 hP hD hS hl => kk H1 locs1 ls1 ⟨_, _, _, _, _, _, _, _, _, _, _, _, _, _, _, _, _, _, _, _, _, _, _, _, _, _, _, Rel_vl hR (nxF_lt hmk _ _ _ (vl, ho) o_vl), hP, hD, hS⟩ hl)
    | false =>
      have a1 := (model_none hR (vl, ho) hm).1
      exact lp_valueOf_2 hA hAn hst C0 t0 hXh zc zs hkc hks i hiL hL ad cL cI nv nb nt nf na lv nm vw vp tw ab am w ma cZ th tk ta tb tc fk fa fb od sd aa vl ho o fo u uo hok hmk (xs (i + 1)) hf hm a1 rfl hK hP hD hS hl (fun H1 locs1 ls1 hP hD hS hl => kk H1 locs1 ls1 ⟨_, _, _, _, _, _, _, _, _, _, _, _, _, _, _, _, _, _, _, _, _, _, _, _, _, _, _, Rel_vl hR (nxF_lt hmk _ _ _ (vl, ho) o_vl), hP, hD, hS⟩ hl)
  · skip
    exact lp_valueOf_1 hA hAn hst C0 t0 hXh zc zs hkc hks i hiL hL ad cL cI nv nb nt nf na lv nm vw vp tw ab am w ma cZ th tk ta tb tc fk fa fb od sd aa vl ho o fo u uo hok hmk (xs (i + 1)) (Bool.eq_false_iff.mpr hf) rfl hK hP hD hS hl (fun H1 locs1 ls1 hP hD hS hl => kk H1 locs1 ls1 ⟨_, _, _, _, _, _, _, _, _, _, _, _, _, _, _, _, _, _, _, _, _, _, _, _, _, _, _, hR, hP, hD, hS⟩ hl)
set_option maxHeartbeats 4000000 in
set_option maxRecDepth 100000 in
theorem law_entailed {p : Program} {l : Launch} {e : Env} {s : State} {m : MethodId} {below : List Frame} {meth : Method} {c : Code} {D : va_G} {b L : Nat} {xs : Nat → Int32} {A : Nat → Prop} (hA : ∀ q : Nat, s.heap.size ≤ q → A q) (hAn : ∀ q : Nat, A q → s.heap.size ≤ q) (hst : l.stackTraces = false) (C0 : lw_At p s m meth c b L xs) (t0 : Nat) (hXh : Xh s.heap.size t0 s) (zc zs : Nat) (hkc : zc + 1 ≤ 601024) (hks : zs + 6 ≤ 7293034) (i : Nat) (hiL : i + 5 ≤ L) (hL : L ≤ 2560) (ad ma : Nat → Nat) (cL cI cZ : ClassId) (o : Nat) (u : ∀ i, i < 9 → s.heap.size ≤ ad i) (uo : s.heap.size ≤ o) (hK : va_K D cls [(cL, .long), (cI, .int), (cZ, .boolean)] s) {H : Heap} {locs : List Loc} (hJ : LJ D A s ad ma cL cI cZ o H locs) {ls : Array Slot} (hl : lv_has ls 7 [(0, .ref b), (1, .ref (ad 0)), (2, .ref (ma 0)), (3, .ref o), (4, .int (nI i))]) (kk : ∀ (H1 : Heap) (locs1 : List Loc) (ls1 : Array Slot), LJ D A s ad ma cL cI cZ o H1 locs1 → lv_has ls1 7 [(0, .ref b), (1, .ref (ad 0)), (2, .ref (ma 0)), (3, .ref o), (4, .int (nI i))] → W p l e room_1 s m #[Value.ref b] below meth c H1 locs1 (zc + 1) (zs + 6) (lw_Z below #[Value.ref b] s) (F0 m 967 ls1 [])) : W p l e room_1 s m #[Value.ref b] below meth c H locs zc zs (lw_Z below #[Value.ref b] s) (F0 m 617 ls []) := by
  obtain ⟨nv, nb, nt, nf, na, lv, nm, vw, vp, tw, ab, am, w, th, tk, ta, tb, tc, fk, fa, fb, od, sd, aa, vl, ho, fo, hR, hP, hD, hS⟩ := hJ
  have hok := hR.1
  have hmk := hR.2.1
  obtain ⟨o_nv, o_nb, o_nt, o_nf, o_na, o_lv, o_nm, o_vw, o_tw, o_am, o_sd, o_T, o_F, o_od, o_vl⟩ := id hmk
  by_cases hf : hasB (xs (i + 1)) nf = true
  · obtain ⟨z, hz, e1⟩ := hasB_nat hf
    cases hm : (!pNone w (250 + lv) (250 + lv)) with
    | true =>
      have a1 := ent_eq hR (vl, ho) hz hm rfl
      exact lp_entailed_0 hA hAn hst C0 t0 hXh zc zs hkc hks i hiL hL ad cL cI nv nb nt nf na lv nm vw vp tw ab am w ma cZ th tk ta tb tc fk fa fb od sd aa vl ho o fo u uo hok hmk z hz hm a1.1 a1.2 e1 hK hP hD hS hl (fun H1 locs1 ls1 hP hD hS hl => kk H1 locs1 ls1 ⟨_, _, _, _, _, _, _, _, _, _, _, _, _, _, _, _, _, _, _, _, _, _, _, _, _, _, _, Rel_vl hR (itS_lt hmk (nxF_lt hmk _ _ _ (vl, ho) o_vl) 1025), hP, hD, hS⟩ hl)
    | false =>
      have a1 := ent_none hR (vl, ho) hz hm rfl
      exact lp_entailed_2 hA hAn hst C0 t0 hXh zc zs hkc hks i hiL hL ad cL cI nv nb nt nf na lv nm vw vp tw ab am w ma cZ th tk ta tb tc fk fa fb od sd aa vl ho o fo u uo hok hmk z hz hm a1.1 a1.2 e1 hK hP hD hS hl (fun H1 locs1 ls1 hP hD hS hl => kk H1 locs1 ls1 ⟨_, _, _, _, _, _, _, _, _, _, _, _, _, _, _, _, _, _, _, _, _, _, _, _, _, _, _, Rel_vl hR (itS_lt hmk (nxF_lt hmk _ _ _ (vl, ho) o_vl) 1025), hP, hD, hS⟩ hl)
  · skip
    exact lp_entailed_1 hA hAn hst C0 t0 hXh zc zs hkc hks i hiL hL ad cL cI nv nb nt nf na lv nm vw vp tw ab am w ma cZ th tk ta tb tc fk fa fb od sd aa vl ho o fo u uo hok hmk (xs (i + 1)) (Bool.eq_false_iff.mpr hf) rfl hK hP hD hS hl (fun H1 locs1 ls1 hP hD hS hl => kk H1 locs1 ls1 ⟨_, _, _, _, _, _, _, _, _, _, _, _, _, _, _, _, _, _, _, _, _, _, _, _, _, _, _, hR, hP, hD, hS⟩ hl)
set_option maxHeartbeats 4000000 in
set_option maxRecDepth 100000 in
theorem law_fixed {p : Program} {l : Launch} {e : Env} {s : State} {m : MethodId} {below : List Frame} {meth : Method} {c : Code} {D : va_G} {b L : Nat} {xs : Nat → Int32} {A : Nat → Prop} (hA : ∀ q : Nat, s.heap.size ≤ q → A q) (hAn : ∀ q : Nat, A q → s.heap.size ≤ q) (hst : l.stackTraces = false) (C0 : lw_At p s m meth c b L xs) (t0 : Nat) (hXh : Xh s.heap.size t0 s) (zc zs : Nat) (hkc : zc + 1 ≤ 601024) (hks : zs + 6 ≤ 7293034) (i : Nat) (hiL : i + 5 ≤ L) (hL : L ≤ 2560) (ad ma : Nat → Nat) (cL cI cZ : ClassId) (o : Nat) (u : ∀ i, i < 9 → s.heap.size ≤ ad i) (uo : s.heap.size ≤ o) (hK : va_K D cls [(cL, .long), (cI, .int), (cZ, .boolean)] s) {H : Heap} {locs : List Loc} (hJ : LJ D A s ad ma cL cI cZ o H locs) {ls : Array Slot} (hl : lv_has ls 7 [(0, .ref b), (1, .ref (ad 0)), (2, .ref (ma 0)), (3, .ref o), (4, .int (nI i))]) (kk : ∀ (H1 : Heap) (locs1 : List Loc) (ls1 : Array Slot), LJ D A s ad ma cL cI cZ o H1 locs1 → lv_has ls1 7 [(0, .ref b), (1, .ref (ad 0)), (2, .ref (ma 0)), (3, .ref o), (4, .int (nI i))] → W p l e room_1 s m #[Value.ref b] below meth c H1 locs1 (zc + 1) (zs + 6) (lw_Z below #[Value.ref b] s) (F0 m 967 ls1 [])) : W p l e room_1 s m #[Value.ref b] below meth c H locs zc zs (lw_Z below #[Value.ref b] s) (F0 m 673 ls []) := by
  obtain ⟨nv, nb, nt, nf, na, lv, nm, vw, vp, tw, ab, am, w, th, tk, ta, tb, tc, fk, fa, fb, od, sd, aa, vl, ho, fo, hR, hP, hD, hS⟩ := hJ
  have hok := hR.1
  have hmk := hR.2.1
  obtain ⟨o_nv, o_nb, o_nt, o_nf, o_na, o_lv, o_nm, o_vw, o_tw, o_am, o_sd, o_T, o_F, o_od, o_vl⟩ := id hmk
  by_cases hf : hasB (xs (i + 1)) nv = true
  · obtain ⟨z, hz, e1⟩ := hasB_nat hf
    cases hm : (!pNone w (250 + lv) (250 + lv)) with
    | true =>
      obtain ⟨n, a1, a2, a3, a4, a5⟩ := model_some hR (vl, ho) hm
      have ov := hok.2.2.2.2.2.2.2.1 z hz
      exact lp_fixed_0 hA hAn hst C0 t0 hXh zc zs hkc hks i hiL hL ad cL cI nv nb nt nf na lv nm vw vp tw ab am w ma cZ th tk ta tb tc fk fa fb od sd aa vl ho o fo u uo hok hmk z hz hm n a1 (fixed_eq hR (vl, ho) hz rfl) e1 hK hP hD hS hl (fun H1 locs1 ls1 hP hD hS hl => kk H1 locs1 ls1 ⟨_, _, _, _, _, _, _, _, _, _, _, _, _, _, _, _, _, _, _, _, _, _, _, _, _, _, _, Rel_vl (Rel_w hR (fxW_low w _ _ (by omega))) (itS_lt hmk (nxF_lt hmk _ _ _ (vl, ho) o_vl) 1025), hP, hD, hS⟩ hl)
    | false =>
      have a1 := (model_none hR (vl, ho) hm).1
      exact lp_fixed_2 hA hAn hst C0 t0 hXh zc zs hkc hks i hiL hL ad cL cI nv nb nt nf na lv nm vw vp tw ab am w ma cZ th tk ta tb tc fk fa fb od sd aa vl ho o fo u uo hok hmk (xs (i + 1)) hf hm a1 rfl hK hP hD hS hl (fun H1 locs1 ls1 hP hD hS hl => kk H1 locs1 ls1 ⟨_, _, _, _, _, _, _, _, _, _, _, _, _, _, _, _, _, _, _, _, _, _, _, _, _, _, _, Rel_vl hR (nxF_lt hmk _ _ _ (vl, ho) o_vl), hP, hD, hS⟩ hl)
  · skip
    exact lp_fixed_1 hA hAn hst C0 t0 hXh zc zs hkc hks i hiL hL ad cL cI nv nb nt nf na lv nm vw vp tw ab am w ma cZ th tk ta tb tc fk fa fb od sd aa vl ho o fo u uo hok hmk (xs (i + 1)) (Bool.eq_false_iff.mpr hf) rfl hK hP hD hS hl (fun H1 locs1 ls1 hP hD hS hl => kk H1 locs1 ls1 ⟨_, _, _, _, _, _, _, _, _, _, _, _, _, _, _, _, _, _, _, _, _, _, _, _, _, _, _, hR, hP, hD, hS⟩ hl)
set_option maxHeartbeats 4000000 in
set_option maxRecDepth 100000 in
theorem law_least {p : Program} {l : Launch} {e : Env} {s : State} {m : MethodId} {below : List Frame} {meth : Method} {c : Code} {D : va_G} {b L : Nat} {xs : Nat → Int32} {A : Nat → Prop} (hA : ∀ q : Nat, s.heap.size ≤ q → A q) (hAn : ∀ q : Nat, A q → s.heap.size ≤ q) (hst : l.stackTraces = false) (C0 : lw_At p s m meth c b L xs) (t0 : Nat) (hXh : Xh s.heap.size t0 s) (zc zs : Nat) (hkc : zc + 1 ≤ 601024) (hks : zs + 6 ≤ 7293034) (i : Nat) (hiL : i + 5 ≤ L) (hL : L ≤ 2560) (ad ma : Nat → Nat) (cL cI cZ : ClassId) (o : Nat) (u : ∀ i, i < 9 → s.heap.size ≤ ad i) (uo : s.heap.size ≤ o) (hK : va_K D cls [(cL, .long), (cI, .int), (cZ, .boolean)] s) {H : Heap} {locs : List Loc} (hJ : LJ D A s ad ma cL cI cZ o H locs) {ls : Array Slot} (hl : lv_has ls 7 [(0, .ref b), (1, .ref (ad 0)), (2, .ref (ma 0)), (3, .ref o), (4, .int (nI i))]) (kk : ∀ (H1 : Heap) (locs1 : List Loc) (ls1 : Array Slot), LJ D A s ad ma cL cI cZ o H1 locs1 → lv_has ls1 7 [(0, .ref b), (1, .ref (ad 0)), (2, .ref (ma 0)), (3, .ref o), (4, .int (nI i))] → W p l e room_1 s m #[Value.ref b] below meth c H1 locs1 (zc + 1) (zs + 6) (lw_Z below #[Value.ref b] s) (F0 m 967 ls1 [])) : W p l e room_1 s m #[Value.ref b] below meth c H locs zc zs (lw_Z below #[Value.ref b] s) (F0 m 729 ls []) := by
  obtain ⟨nv, nb, nt, nf, na, lv, nm, vw, vp, tw, ab, am, w, th, tk, ta, tb, tc, fk, fa, fb, od, sd, aa, vl, ho, fo, hR, hP, hD, hS⟩ := hJ
  have hok := hR.1
  have hmk := hR.2.1
  obtain ⟨o_nv, o_nb, o_nt, o_nf, o_na, o_lv, o_nm, o_vw, o_tw, o_am, o_sd, o_T, o_F, o_od, o_vl⟩ := id hmk
  by_cases hf : hasB (xs (i + 1)) nt = true
  · obtain ⟨z, hz, e1⟩ := hasB_nat hf
    cases hm : (!pNone w (250 + lv) (250 + lv)) with
    | true =>
      have a1 := least_eq hR (vl, ho) hz hm
      exact lp_least_0 hA hAn hst C0 t0 hXh zc zs hkc hks i hiL hL ad cL cI nv nb nt nf na lv nm vw vp tw ab am w ma cZ th tk ta tb tc fk fa fb od sd aa vl ho o fo u uo hok hmk z hz hm a1.1 a1.2.1 e1 hK hP hD hS hl (fun H1 locs1 ls1 hP hD hS hl => kk H1 locs1 ls1 ⟨_, _, _, _, _, _, _, _, _, _, _, _, _, _, _, _, _, _, _, _, _, _, _, _, _, _, _, Rel_vl (Rel_w hR a1.2.2) (itS_lt hmk (nxF_lt hmk _ _ _ (vl, ho) o_vl) 1025), hP, hD, hS⟩ hl)
    | false =>
      have a1 := least_none hR (vl, ho) hz hm
      exact lp_least_2 hA hAn hst C0 t0 hXh zc zs hkc hks i hiL hL ad cL cI nv nb nt nf na lv nm vw vp tw ab am w ma cZ th tk ta tb tc fk fa fb od sd aa vl ho o fo u uo hok hmk z hz hm a1 e1 hK hP hD hS hl (fun H1 locs1 ls1 hP hD hS hl => kk H1 locs1 ls1 ⟨_, _, _, _, _, _, _, _, _, _, _, _, _, _, _, _, _, _, _, _, _, _, _, _, _, _, _, Rel_vl hR (itS_lt hmk (nxF_lt hmk _ _ _ (vl, ho) o_vl) 1025), hP, hD, hS⟩ hl)
  · skip
    exact lp_least_1 hA hAn hst C0 t0 hXh zc zs hkc hks i hiL hL ad cL cI nv nb nt nf na lv nm vw vp tw ab am w ma cZ th tk ta tb tc fk fa fb od sd aa vl ho o fo u uo hok hmk (xs (i + 1)) (Bool.eq_false_iff.mpr hf) rfl hK hP hD hS hl (fun H1 locs1 ls1 hP hD hS hl => kk H1 locs1 ls1 ⟨_, _, _, _, _, _, _, _, _, _, _, _, _, _, _, _, _, _, _, _, _, _, _, _, _, _, _, hR, hP, hD, hS⟩ hl)
set_option maxHeartbeats 4000000 in
set_option maxRecDepth 100000 in
theorem law_blame {p : Program} {l : Launch} {e : Env} {s : State} {m : MethodId} {below : List Frame} {meth : Method} {c : Code} {D : va_G} {b L : Nat} {xs : Nat → Int32} {A : Nat → Prop} (hA : ∀ q : Nat, s.heap.size ≤ q → A q) (hAn : ∀ q : Nat, A q → s.heap.size ≤ q) (hst : l.stackTraces = false) (C0 : lw_At p s m meth c b L xs) (t0 : Nat) (hXh : Xh s.heap.size t0 s) (zc zs : Nat) (hkc : zc + 1 ≤ 601024) (hks : zs + 6 ≤ 7293034) (i : Nat) (hiL : i + 5 ≤ L) (hL : L ≤ 2560) (ad ma : Nat → Nat) (cL cI cZ : ClassId) (o : Nat) (u : ∀ i, i < 9 → s.heap.size ≤ ad i) (uo : s.heap.size ≤ o) (hK : va_K D cls [(cL, .long), (cI, .int), (cZ, .boolean)] s) {H : Heap} {locs : List Loc} (hJ : LJ D A s ad ma cL cI cZ o H locs) {ls : Array Slot} (hl : lv_has ls 7 [(0, .ref b), (1, .ref (ad 0)), (2, .ref (ma 0)), (3, .ref o), (4, .int (nI i))]) (kk : ∀ (H1 : Heap) (locs1 : List Loc) (ls1 : Array Slot), LJ D A s ad ma cL cI cZ o H1 locs1 → lv_has ls1 7 [(0, .ref b), (1, .ref (ad 0)), (2, .ref (ma 0)), (3, .ref o), (4, .int (nI i))] → W p l e room_1 s m #[Value.ref b] below meth c H1 locs1 (zc + 1) (zs + 6) (lw_Z below #[Value.ref b] s) (F0 m 967 ls1 [])) : W p l e room_1 s m #[Value.ref b] below meth c H locs zc zs (lw_Z below #[Value.ref b] s) (F0 m 867 ls []) := by
  obtain ⟨nv, nb, nt, nf, na, lv, nm, vw, vp, tw, ab, am, w, th, tk, ta, tb, tc, fk, fa, fb, od, sd, aa, vl, ho, fo, hR, hP, hD, hS⟩ := hJ
  have hok := hR.1
  have hmk := hR.2.1
  obtain ⟨o_nv, o_nb, o_nt, o_nf, o_na, o_lv, o_nm, o_vw, o_tw, o_am, o_sd, o_T, o_F, o_od, o_vl⟩ := id hmk
  cases hm : pCan am lv nm (2 ^ nm - 1) w with
  | false =>
    have a0 := attempt_eq hR (vl, ho)
    rw [hm] at a0
    have a1 : (nxF (mEv nv nt nf vw tk ta tb tc tw fk fa fb od) (mOk sd am na nm 255) (2 ^ nb - 0) 0 (vl, ho)).1 = none := by
      cases hz : (nxF (mEv nv nt nf vw tk ta tb tc tw fk fa fb od) (mOk sd am na nm 255) (2 ^ nb - 0) 0 (vl, ho)).1 with
      | none => rfl
      | some n => rw [hz] at a0; cases a0
    have a2 := blame_inv hR (nxF (mEv nv nt nf vw tk ta tb tc tw fk fa fb od) (mOk sd am na nm 255) (2 ^ nb - 0) 0 (vl, ho)).2 (2 ^ nm - 1) (wAsm_low hR (2 ^ nm - 1) (fun _ _ _ _ => rfl)) nm
    exact lp_blame_0 hA hAn hst C0 t0 hXh zc zs hkc hks i hiL hL ad cL cI nv nb nt nf na lv nm vw vp tw ab am w ma cZ th tk ta tb tc fk fa fb od sd aa vl ho o fo u uo hok hmk hm a1 a2.1 hK hP hD hS hl (fun H1 locs1 ls1 hP hD hS hl => kk H1 locs1 ls1 ⟨_, _, _, _, _, _, _, _, _, _, _, _, _, _, _, _, _, _, _, _, _, _, _, _, _, _, _, Rel_vl (Rel_w hR a2.2) (mbl_lt hmk _ _ _ (nxF_lt hmk _ _ _ (vl, ho) o_vl) nm), hP, hD, hS⟩ hl)
  | true =>
    have a0 := attempt_eq hR (vl, ho)
    rw [hm] at a0
    obtain ⟨n, a1⟩ : ∃ n, (nxF (mEv nv nt nf vw tk ta tb tc tw fk fa fb od) (mOk sd am na nm 255) (2 ^ nb - 0) 0 (vl, ho)).1 = some n := by
      cases hz : (nxF (mEv nv nt nf vw tk ta tb tc tw fk fa fb od) (mOk sd am na nm 255) (2 ^ nb - 0) 0 (vl, ho)).1 with
      | none => rw [hz] at a0; cases a0
      | some n => exact ⟨n, rfl⟩
    exact lp_blame_1 hA hAn hst C0 t0 hXh zc zs hkc hks i hiL hL ad cL cI nv nb nt nf na lv nm vw vp tw ab am w ma cZ th tk ta tb tc fk fa fb od sd aa vl ho o fo u uo hok hmk hm n a1 hK hP hD hS hl (fun H1 locs1 ls1 hP hD hS hl => kk H1 locs1 ls1 ⟨_, _, _, _, _, _, _, _, _, _, _, _, _, _, _, _, _, _, _, _, _, _, _, _, _, _, _, Rel_vl (Rel_w hR (wAsm_low hR _ (fun _ _ _ _ => rfl))) (nxF_lt hmk _ _ _ (vl, ho) o_vl), hP, hD, hS⟩ hl)
set_option maxHeartbeats 4000000 in
set_option maxRecDepth 100000 in
theorem law_count {p : Program} {l : Launch} {e : Env} {s : State} {m : MethodId} {below : List Frame} {meth : Method} {c : Code} {D : va_G} {b L : Nat} {xs : Nat → Int32} {A : Nat → Prop} (hA : ∀ q : Nat, s.heap.size ≤ q → A q) (hAn : ∀ q : Nat, A q → s.heap.size ≤ q) (hst : l.stackTraces = false) (C0 : lw_At p s m meth c b L xs) (t0 : Nat) (hXh : Xh s.heap.size t0 s) (zc zs : Nat) (hkc : zc + 1 ≤ 601024) (hks : zs + 6 ≤ 7293034) (i : Nat) (hiL : i + 5 ≤ L) (hL : L ≤ 2560) (ad ma : Nat → Nat) (cL cI cZ : ClassId) (o : Nat) (u : ∀ i, i < 9 → s.heap.size ≤ ad i) (uo : s.heap.size ≤ o) (hK : va_K D cls [(cL, .long), (cI, .int), (cZ, .boolean)] s) {H : Heap} {locs : List Loc} (hJ : LJ D A s ad ma cL cI cZ o H locs) {ls : Array Slot} (hl : lv_has ls 7 [(0, .ref b), (1, .ref (ad 0)), (2, .ref (ma 0)), (3, .ref o), (4, .int (nI i))]) (kk : ∀ (H1 : Heap) (locs1 : List Loc) (ls1 : Array Slot), LJ D A s ad ma cL cI cZ o H1 locs1 → lv_has ls1 7 [(0, .ref b), (1, .ref (ad 0)), (2, .ref (ma 0)), (3, .ref o), (4, .int (nI i))] → W p l e room_1 s m #[Value.ref b] below meth c H1 locs1 (zc + 1) (zs + 6) (lw_Z below #[Value.ref b] s) (F0 m 967 ls1 [])) : W p l e room_1 s m #[Value.ref b] below meth c H locs zc zs (lw_Z below #[Value.ref b] s) (F0 m 911 ls []) := by
  obtain ⟨nv, nb, nt, nf, na, lv, nm, vw, vp, tw, ab, am, w, th, tk, ta, tb, tc, fk, fa, fb, od, sd, aa, vl, ho, fo, hR, hP, hD, hS⟩ := hJ
  have hok := hR.1
  have hmk := hR.2.1
  obtain ⟨o_nv, o_nb, o_nt, o_nf, o_na, o_lv, o_nm, o_vw, o_tw, o_am, o_sd, o_T, o_F, o_od, o_vl⟩ := id hmk
  by_cases hk : 0 ≤ (xs (i + 1)).toInt ∧ (xs (i + 1)).toInt ≤ 6
  · obtain ⟨k, hk2, e1⟩ := z_nat (x := xs (i + 1)) (n := 7) hk.1 (by omega)
    exact lp_count_0 hA hAn hst C0 t0 hXh zc zs hkc hks i hiL hL ad cL cI nv nb nt nf na lv nm vw vp tw ab am w ma cZ th tk ta tb tc fk fa fb od sd aa vl ho o fo u uo hok hmk k hk2 e1 hK hP hD hS hl (fun H1 locs1 ls1 hP hD hS hl => kk H1 locs1 ls1 ⟨_, _, _, _, _, _, _, _, _, _, _, _, _, _, _, _, _, _, _, _, _, _, _, _, _, _, _, hR, hP, hD, hS⟩ hl)
  · skip
    exact lp_count_1 hA hAn hst C0 t0 hXh zc zs hkc hks i hiL hL ad cL cI nv nb nt nf na lv nm vw vp tw ab am w ma cZ th tk ta tb tc fk fa fb od sd aa vl ho o fo u uo hok hmk (xs (i + 1)) (by omega) rfl hK hP hD hS hl (fun H1 locs1 ls1 hP hD hS hl => kk H1 locs1 ls1 ⟨_, _, _, _, _, _, _, _, _, _, _, _, _, _, _, _, _, _, _, _, _, _, _, _, _, _, _, hR, hP, hD, hS⟩ hl)
