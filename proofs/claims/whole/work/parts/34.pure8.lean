section RM
variable {nv nb nt nf na lv nm : Nat} {vw vp tw ab am : Nat → Nat} {w : Nat → Int64} {tk ta : Nat → Nat} {tb tc : Nat → Int32} {fk fa : Nat → Nat} {fb : Nat → Int32} {od sd aa vl : Nat → Nat}
theorem Rel_low (h : Rel nv nb nt nf na lv nm vw vp tw ab am w tk ta tb tc fk fa fb od sd aa vl) {w' : Nat → Int64} (hw : ∀ r, r < 250 → ∀ x, x < 1024 → pBit w' r x = pBit w r x) : Rbit nt nf vw vp tw w' tk ta tb tc fk fa fb := by
  obtain ⟨hB, hM, hP, hO, hR, hL⟩ := h
  obtain ⟨m1, m2, m3, m4, m5, m6, m7, m8, m9, m10, m11, m12, m13, m14, m15⟩ := id hM
  exact Rbit_keep hR ⟨m3, m4⟩ m12 m13 (fun x hx t ht => VX_rows (m9 t ht).2 rfl (fun r _ _ => hw r (by omega) x hx)) (fun x hx f hf => hw f (by omega) x hx) (fun x v _ => rfl) (fun _ _ => rfl)
theorem Rel_assertion (h : Rel nv nb nt nf na lv nm vw vp tw ab am w tk ta tb tc fk fa fb od sd aa vl) {f : Nat} (hf : f < nf) (hn : na < 30) : Rel nv nb nt nf (na + 1) lv nm vw vp tw ab am (oAnd (250 + lv) (250 + lv) f 1 w) tk ta tb tc fk fa fb od (updN sd na f) (updN aa na lv) vl := by
  have hlow : ∀ r, r ≠ 250 + lv → ∀ x, x < 1024 → pBit (oAnd (250 + lv) (250 + lv) f 1 w) r x = pBit w r x := fun r hr x hx => by rw [pb_and1 _ _ _ _ hx, if_neg hr]
  have hR' := Rel_low h (w' := oAnd (250 + lv) (250 + lv) f 1 w) (fun r hr x hx => hlow r (by omega) x hx)
  obtain ⟨hB, hM, hP, hO, hR, hL⟩ := h
  obtain ⟨m1, m2, m3, m4, m5, m6, m7, m8, m9, m10, m11, m12, m13, m14, m15⟩ := id hM
  obtain ⟨b1, b2, b3, b4, b5, b6, b7, b8, b9, b10, b11⟩ := id hB
  obtain ⟨l1, l2, l3, l4⟩ := hL
  refine ⟨⟨b1, b2, b3, b4, by omega, b6, b7, b8, b9, b10, fun j h1 h2 => by have := b11 j h1 h2; omega⟩, ⟨m1, m2, m3, m4, by omega, m6, m7, m8, m9, m10, fun j hj => ?_, m12, m13, m14, m15⟩, hP, hO, hR', ⟨fun j hj x hx => ?_, fun i hi => ?_, fun j h1 h2 i hi => ?_, l4⟩⟩
  · by_cases q : j = na
    · subst q; rw [updN_self]; exact hf
    · rw [updN_ne _ _ q]; exact m11 j (by omega)
  · by_cases q : j = lv
    · subst q
      rw [if_pos rfl, pb_and1 _ _ _ _ hx, if_pos rfl, Bool.and_eq_true, l1 j (Nat.le_refl _) x hx, if_pos rfl]
      constructor
      · intro ⟨g1, g2⟩ i hi
        by_cases qi : i = na
        · subst qi
          rw [updN_self, hlow f (by omega) x hx]
          exact g2
        · rw [updN_ne _ _ qi, hlow (sd i) (by have := m11 i (by omega); omega) x hx]
          exact g1 i (by omega)
      · intro g
        refine ⟨fun i hi => ?_, ?_⟩
        · have := g i (by omega)
          rw [updN_ne _ _ (by omega), hlow (sd i) (by have := m11 i hi; omega) x hx] at this
          exact this
        · have := g na (by omega)
          rw [updN_self, hlow f (by omega) x hx] at this
          exact this
    · rw [if_neg q, hlow (250 + j) (by omega) x hx, l1 j hj x hx, if_neg q]
      have hb := b11 (j + 1) (by omega) (by omega)
      refine forall_congr' (fun i => ⟨fun g hi => ?_, fun g hi => ?_⟩)
      · rw [updN_ne _ _ (by omega), hlow (sd i) (by have := m11 i (by omega); omega) x hx]
        exact g hi
      · have := g hi
        rw [updN_ne _ _ (by omega), hlow (sd i) (by have := m11 i (by omega); omega) x hx] at this
        exact this
  · by_cases q : i = na
    · subst q; rw [updN_self]; exact Nat.le_refl _
    · rw [updN_ne _ _ q]; exact l2 i (by omega)
  · by_cases q : i = na
    · subst q
      rw [updN_self]
      exact ⟨fun _ => h2, fun _ => b11 j h1 h2⟩
    · rw [updN_ne _ _ q]
      exact l3 j h1 h2 i (by omega)
theorem Rel_push (h : Rel nv nb nt nf na lv nm vw vp tw ab am w tk ta tb tc fk fa fb od sd aa vl) (hn : lv < 5) : Rel nv nb nt nf na (lv + 1) nm vw vp tw (updN ab (lv + 1) na) am (oCopy (250 + lv + 1) (250 + lv) 1 w) tk ta tb tc fk fa fb od sd aa vl := by
  have hlow : ∀ r, r ≠ 250 + lv + 1 → ∀ x, x < 1024 → pBit (oCopy (250 + lv + 1) (250 + lv) 1 w) r x = pBit w r x := fun r hr x hx => by rw [pb_copy1 _ _ _ hx, if_neg hr]
  have hR' := Rel_low h (w' := oCopy (250 + lv + 1) (250 + lv) 1 w) (fun r hr x hx => hlow r (by omega) x hx)
  obtain ⟨hB, hM, hP, hO, hR, hL⟩ := h
  obtain ⟨m1, m2, m3, m4, m5, m6, m7, m8, m9, m10, m11, m12, m13, m14, m15⟩ := id hM
  obtain ⟨b1, b2, b3, b4, b5, b6, b7, b8, b9, b10, b11⟩ := id hB
  obtain ⟨l1, l2, l3, l4⟩ := hL
  refine ⟨⟨b1, b2, b3, b4, b5, by omega, b7, b8, b9, b10, fun j h1 h2 => ?_⟩, ⟨m1, m2, m3, m4, m5, by omega, m7, m8, m9, m10, m11, m12, m13, m14, m15⟩, hP, hO, hR', ⟨fun j hj x hx => ?_, fun i hi => by have := l2 i hi; omega, fun j h1 h2 i hi => ?_, fun j h1 h2 => ?_⟩⟩
  · by_cases q : j = lv + 1
    · subst q; rw [updN_self]; exact Nat.le_refl _
    · rw [updN_ne _ _ q]; exact b11 j h1 (by omega)
  · by_cases q : j = lv + 1
    · subst q
      rw [if_pos rfl, show 250 + (lv + 1) = 250 + lv + 1 by omega, pb_copy1 _ _ _ hx, if_pos rfl, l1 lv (Nat.le_refl _) x hx, if_pos rfl]
      refine forall_congr' (fun i => ⟨fun g hi => ?_, fun g hi => ?_⟩)
      · rw [hlow (sd i) (by have := m11 i hi; omega) x hx]; exact g hi
      · have := g hi
        rw [hlow (sd i) (by have := m11 i hi; omega) x hx] at this
        exact this
    · rw [if_neg q, hlow (250 + j) (by omega) x hx, l1 j (by omega) x hx]
      have e : (if j = lv then na else ab (j + 1)) = updN ab (lv + 1) na (j + 1) := by
        by_cases qj : j = lv
        · subst qj; rw [if_pos rfl, updN_self]
        · rw [if_neg qj, updN_ne _ _ (by omega)]
      rw [← e]
      refine forall_congr' (fun i => ⟨fun g hi => ?_, fun g hi => ?_⟩)
      · have hi2 : i < na := by
          split at hi
          · exact hi
          · have := b11 (j + 1) (by omega) (by omega); omega
        rw [hlow (sd i) (by have := m11 i hi2; omega) x hx]; exact g hi
      · have hi2 : i < na := by
          split at hi
          · exact hi
          · have := b11 (j + 1) (by omega) (by omega); omega
        have := g hi
        rw [hlow (sd i) (by have := m11 i hi2; omega) x hx] at this
        exact this
  · by_cases q : j = lv + 1
    · subst q
      rw [updN_self]
      have := l2 i hi
      exact ⟨fun _ => by omega, fun _ => by omega⟩
    · rw [updN_ne _ _ q]
      exact l3 j h1 (by omega) i hi
  · by_cases q : j = lv
    · subst q
      rw [updN_self, updN_ne _ _ (by omega)]
      exact b11 j h1 (Nat.le_refl _)
    · rw [updN_ne _ _ (by omega), updN_ne _ _ (by omega)]
      exact l4 j h1 (by omega)
theorem Rel_pop (h : Rel nv nb nt nf na lv nm vw vp tw ab am w tk ta tb tc fk fa fb od sd aa vl) (hn : 0 < lv) : Rel nv nb nt nf (ab lv) (lv - 1) nm vw vp tw ab am w tk ta tb tc fk fa fb od sd aa vl ∧ ab lv ≤ na ∧ (∀ j, ab lv ≤ j → j < na → aa j = lv) ∧ (ab lv = 0 ∨ aa (ab lv - 1) ≠ lv) ∧ (∀ j, j < na → aa j ≤ 5) := by
  obtain ⟨hB, hM, hP, hO, hR, hL⟩ := h
  obtain ⟨m1, m2, m3, m4, m5, m6, m7, m8, m9, m10, m11, m12, m13, m14, m15⟩ := id hM
  obtain ⟨b1, b2, b3, b4, b5, b6, b7, b8, b9, b10, b11⟩ := id hB
  obtain ⟨l1, l2, l3, l4⟩ := hL
  have hz := b11 lv hn (Nat.le_refl _)
  have hmono : ∀ j, 1 ≤ j → j ≤ lv → ab j ≤ ab lv := by
    intro j h1 h2
    obtain ⟨d, hd⟩ : ∃ d, lv = j + d := ⟨lv - j, by omega⟩
    have key : ∀ d, j + d ≤ lv → ab j ≤ ab (j + d) := by
      intro d
      induction d with
      | zero => intro _; exact Nat.le_refl _
      | succ d ih => intro hd; exact Nat.le_trans (ih (by omega)) (l4 (j + d) (by omega) (by omega))
    rw [hd]
    exact key d (by omega)
  refine ⟨⟨⟨b1, b2, b3, b4, by omega, by omega, b7, b8, b9, b10, fun j h1 h2 => hmono j h1 (by omega)⟩, ⟨m1, m2, m3, m4, by omega, by omega, m7, m8, m9, m10, fun j hj => m11 j (by omega), m12, m13, m14, m15⟩, hP, hO, hR, ⟨fun j hj x hx => ?_, fun i hi => ?_, fun j h1 h2 i hi => l3 j h1 (by omega) i (by omega), fun j h1 h2 => l4 j h1 (by omega)⟩⟩, hz, fun j g1 g2 => ?_, ?_, fun j hj => by have := l2 j hj; omega⟩
  · have e : (if j = lv - 1 then ab lv else ab (j + 1)) = (if j = lv then na else ab (j + 1)) := by
      rw [if_neg (show ¬ j = lv by omega)]
      by_cases q : j = lv - 1
      · rw [if_pos q, q, show lv - 1 + 1 = lv by omega]
      · rw [if_neg q]
    rw [e]
    exact l1 j (by omega) x hx
  · have g1 := l2 i (by omega)
    have g2 : ¬ lv ≤ aa i := fun q => absurd ((l3 lv hn (Nat.le_refl _) i (by omega)).mpr q) (by omega)
    omega
  · have g3 := (l3 lv hn (Nat.le_refl _) j g2).mp g1
    have g4 := l2 j g2
    omega
  · by_cases q : ab lv = 0
    · exact Or.inl q
    · refine Or.inr (fun g => ?_)
      have := (l3 lv hn (Nat.le_refl _) (ab lv - 1) (by omega)).mpr (by omega)
      omega
theorem Rel_assume (h : Rel nv nb nt nf na lv nm vw vp tw ab am w tk ta tb tc fk fa fb od sd aa vl) {f : Nat} (hf : f < nf) (hn : nm < 8) : Rel nv nb nt nf na lv (nm + 1) vw vp tw ab (updN am nm f) w tk ta tb tc fk fa fb od sd aa vl := by
  obtain ⟨hB, hM, hP, hO, hR, hL⟩ := h
  obtain ⟨m1, m2, m3, m4, m5, m6, m7, m8, m9, m10, m11, m12, m13, m14, m15⟩ := id hM
  obtain ⟨b1, b2, b3, b4, b5, b6, b7, b8, b9, b10, b11⟩ := id hB
  have hA : ∀ j, j < nm + 1 → updN am nm f j < nf := fun j hj => by
    by_cases q : j = nm
    · subst q; rw [updN_self]; exact hf
    · rw [updN_ne _ _ q]; exact b10 j (by omega)
  exact ⟨⟨b1, b2, b3, b4, b5, b6, by omega, b8, b9, hA, b11⟩, ⟨m1, m2, m3, m4, m5, m6, by omega, m8, m9, hA, m11, m12, m13, m14, m15⟩, hP, hO, hR, hL⟩
theorem Rel_clear (h : Rel nv nb nt nf na lv nm vw vp tw ab am w tk ta tb tc fk fa fb od sd aa vl) : Rel nv nb nt nf na lv 0 vw vp tw ab am w tk ta tb tc fk fa fb od sd aa vl := by
  obtain ⟨hB, hM, hP, hO, hR, hL⟩ := h
  obtain ⟨m1, m2, m3, m4, m5, m6, m7, m8, m9, m10, m11, m12, m13, m14, m15⟩ := id hM
  obtain ⟨b1, b2, b3, b4, b5, b6, b7, b8, b9, b10, b11⟩ := id hB
  exact ⟨⟨b1, b2, b3, b4, b5, b6, by omega, b8, b9, fun j hj => absurd hj (Nat.not_lt_zero j), b11⟩, ⟨m1, m2, m3, m4, m5, m6, by omega, m8, m9, fun j hj => absurd hj (Nat.not_lt_zero j), m11, m12, m13, m14, m15⟩, hP, hO, hR, hL⟩
/-- the reference's numbers at an assignment are the rows' -/
theorem gvN_gX (h : Rel nv nb nt nf na lv nm vw vp tw ab am w tk ta tb tc fk fa fb od sd aa vl) {v : Nat} (hv : v < nv) (x : Nat) : gvN nv vw (x / 2 ^ (10 - nb)) v = gX vw vp x v := by
  obtain ⟨hB, hM, hP, hO, hR, hL⟩ := h
  have e1 := sW_split vw 0 (v + 1) (nv - (v + 1))
  rw [show v + 1 + (nv - (v + 1)) = nv by omega, Nat.zero_add, ← hP.1] at e1
  have e2 := hP.2 v hv
  have e3 : nb ≤ 10 := hB.2.1
  unfold gvN
  rw [Nat.and_two_pow_sub_one_eq_mod, Nat.div_div_eq_div_mul, ← Nat.pow_add, show 10 - nb + sW vw (v + 1) (nv - (v + 1)) = vp v by omega]
theorem ev_val (h : Rel nv nb nt nf na lv nm vw vp tw ab am w tk ta tb tc fk fa fb od sd aa vl) {x : Nat} (hx : x < 1024) (q : Qs) : ∀ k, k ≤ nt + nf →
    (∀ t, t < cT od k → (mSt nv vw tk ta tb tc tw fk fa fb od (x / 2 ^ (10 - nb)) k q).1 t = VX tw w x t) ∧ (∀ f, f < k - cT od k → (mSt nv vw tk ta tb tc tw fk fa fb od (x / 2 ^ (10 - nb)) k q).2 f = HX w x f) := by
  have hG := fun v hv => gvN_gX h (v := v) hv x
  obtain ⟨hB, hM, hP, hO, hR, hL⟩ := h
  obtain ⟨m1, m2, m3, m4, m5, m6, m7, m8, m9, m10, m11, m12, m13, m14, m15⟩ := id hM
  intro k
  induction k with
  | zero => intro _; exact ⟨fun t ht => absurd ht (Nat.not_lt_zero t), fun f hf => absurd hf (by omega)⟩
  | succ k ih =>
    intro hk
    obtain ⟨i1, i2⟩ := ih (by omega)
    have hc := cT_le od k
    have hcm := cT_mono od k (nt + nf) (by omega)
    rw [hO.2] at hcm
    generalize hq : mSt nv vw tk ta tb tc tw fk fa fb od (x / 2 ^ (10 - nb)) k q = Q at i1 i2
    have hs : mSt nv vw tk ta tb tc tw fk fa fb od (x / 2 ^ (10 - nb)) (k + 1) q = mStp nv vw tk ta tb tc tw fk fa fb od (x / 2 ^ (10 - nb)) k Q := by rw [← hq]; rfl
    rw [hs]
    rcases hO.1 k (by omega) with ⟨q1, q2, q3⟩ | ⟨q1, q2⟩
    · have e1 : cT od (k + 1) = cT od k + 1 := if_pos q1
      have e2 : mStp nv vw tk ta tb tc tw fk fa fb od (x / 2 ^ (10 - nb)) k Q = (updN Q.1 (od k) ((rawI (tk (od k)) (ta (od k)) (nB (tb (od k))) (nB (tc (od k))) (gvN nv vw (x / 2 ^ (10 - nb))) Q.1 Q.2 tw).toBitVec.toNat % 2 ^ tw (od k)), Q.2) := if_pos q1
      rw [e1, e2]
      have hct : cT od k < nt := by
        have := m14 k (by omega)
        omega
      refine ⟨fun t ht => ?_, fun f hf => i2 f (by omega)⟩
      show updN Q.1 (od k) _ t = _
      by_cases qt : t = od k
      · rw [qt, updN_self, q2, rawI_congr q3 (by omega) hG i1 i2 (fun _ _ => rfl)]
        exact (hR.1 _ hct x hx).symm
      · rw [updN_ne _ _ qt]
        exact i1 t (by omega)
    · have e1 : cT od (k + 1) = cT od k := if_neg (by omega)
      have e2 : mStp nv vw tk ta tb tc tw fk fa fb od (x / 2 ^ (10 - nb)) k Q = (Q.1, updB Q.2 (od k - 100) (truB (fk (od k - 100)) (fa (od k - 100)) (nB (fb (od k - 100))) Q.1 Q.2 tw)) := if_neg (by omega)
      rw [e1, e2]
      have e3 : od k - 100 = k - cT od k := by omega
      have hcf : k - cT od k < nf := by
        have := m14 k (by omega)
        omega
      rw [e3]
      refine ⟨i1, fun f hf => ?_⟩
      show updB Q.2 (k - cT od k) _ f = _
      unfold updB
      by_cases qf : f = k - cT od k
      · rw [if_pos qf, qf, truB_congr q2 ⟨by omega, by omega⟩ i1 i2 (fun _ _ => rfl)]
        exact (hR.2 _ hcf x hx).symm
      · rw [if_neg qf]
        exact i2 f (by omega)
/-- .. behind the whole evaluation -/
theorem ev_all (h : Rel nv nb nt nf na lv nm vw vp tw ab am w tk ta tb tc fk fa fb od sd aa vl) {x : Nat} (hx : x < 1024) (q : Qs) : (∀ t, t < nt → (mEv nv nt nf vw tk ta tb tc tw fk fa fb od (x / 2 ^ (10 - nb)) q).1 t = VX tw w x t) ∧ (∀ f, f < nf → (mEv nv nt nf vw tk ta tb tc tw fk fa fb od (x / 2 ^ (10 - nb)) q).2 f = HX w x f) := by
  have h1 := ev_val h hx q (nt + nf) (Nat.le_refl _)
  have h2 := h.2.2.2.1.2
  rw [h2, show nt + nf - nt = nf by omega] at h1
  exact h1
/-- the rows of two assignments that the variables can't tell apart are the same -/
theorem rows_same (h : Rel nv nb nt nf na lv nm vw vp tw ab am w tk ta tb tc fk fa fb od sd aa vl) {x y : Nat} (hx : x < 1024) (hy : y < 1024) (e : x / 2 ^ (10 - nb) = y / 2 ^ (10 - nb)) : (∀ t, t < nt → VX tw w x t = VX tw w y t) ∧ (∀ f, f < nf → HX w x f = HX w y f) := by
  have h1 := ev_all h hx (fun _ => 0, fun _ => false)
  have h2 := ev_all h hy (fun _ => 0, fun _ => false)
  rw [e] at h1
  exact ⟨fun t ht => (h1.1 t ht).symm.trans (h2.1 t ht), fun f hf => (h1.2 f hf).symm.trans (h2.2 f hf)⟩
/-- the good assignments: the level's row and the chosen assumptions -/
def Gd (am : Nat → Nat) (lv nm : Nat) (w : Nat → Int64) (S x : Nat) : Prop := pBit w (250 + lv) x = true ∧ ∀ i, i < nm → ¬ S / 2 ^ i % 2 = 0 → pBit w (am i) x = true
theorem ok_Gd (h : Rel nv nb nt nf na lv nm vw vp tw ab am w tk ta tb tc fk fa fb od sd aa vl) {x : Nat} (hx : x < 1024) (q : Qs) (S : Nat) : mOk sd am na nm S (mEv nv nt nf vw tk ta tb tc tw fk fa fb od (x / 2 ^ (10 - nb)) q).2 = true ↔ Gd am lv nm w S x := by
  have h1 := (ev_all h hx q).2
  obtain ⟨hB, hM, hP, hO, hR, hL⟩ := h
  have m11 := hM.2.2.2.2.2.2.2.2.2.2.1
  have m10 := hM.2.2.2.2.2.2.2.2.2.1
  rw [mOk_iff]
  unfold Gd
  rw [hL.1 lv (Nat.le_refl _) x hx, if_pos rfl]
  refine and_congr ⟨fun g i hi => ?_, fun g i hi => ?_⟩ ⟨fun g i hi hs => ?_, fun g i hi hs => ?_⟩
  · exact (h1 (sd i) (m11 i hi)).symm.trans (g i hi)
  · rw [h1 (sd i) (m11 i hi)]; exact g i hi
  · exact (h1 (am i) (m10 i hi)).symm.trans (g i hi hs)
  · rw [h1 (am i) (m10 i hi)]; exact g i hi hs
theorem Gd_same (h : Rel nv nb nt nf na lv nm vw vp tw ab am w tk ta tb tc fk fa fb od sd aa vl) {x y : Nat} (hx : x < 1024) (hy : y < 1024) (e : x / 2 ^ (10 - nb) = y / 2 ^ (10 - nb)) (S : Nat) : Gd am lv nm w S x ↔ Gd am lv nm w S y := by
  rw [← ok_Gd h hx (fun _ => 0, fun _ => false) S, ← ok_Gd h hy (fun _ => 0, fun _ => false) S, e]
end RM
theorem rep_div {nb n : Nat} (h : nb ≤ 10) (hn : n < 2 ^ nb) : n * 2 ^ (10 - nb) < 1024 ∧ n * 2 ^ (10 - nb) / 2 ^ (10 - nb) = n := by
  refine ⟨?_, Nat.mul_div_cancel _ (Nat.two_pow_pos _)⟩
  have e : 2 ^ nb * 2 ^ (10 - nb) = 1024 := by rw [← Nat.pow_add, show nb + (10 - nb) = 10 by omega]
  have h2 : n * 2 ^ (10 - nb) < 2 ^ nb * 2 ^ (10 - nb) := Nat.mul_lt_mul_of_pos_right hn (Nat.two_pow_pos _)
  omega
theorem div_lt {nb x : Nat} (h : nb ≤ 10) (hx : x < 1024) : x / 2 ^ (10 - nb) < 2 ^ nb := by
  refine Nat.div_lt_of_lt_mul ?_
  rw [← Nat.pow_add, show 10 - nb + nb = 10 by omega]
  exact hx
/-- the search -/
theorem nxF_spec {ev : Nat → Qs → Qs} {ok : (Nat → Bool) → Bool} {N : Nat} {G : Nat → Prop} {E : Nat → Qs → Prop} (hg : ∀ n q, n < N → (ok (ev n q).2 = true ↔ G n)) (hE : ∀ n q, n < N → E n (ev n q)) : ∀ k n q, n + k ≤ N →
    ((nxF ev ok k n q).1 = none ∧ ∀ j, n ≤ j → j < n + k → ¬ G j) ∨ ∃ m, (nxF ev ok k n q).1 = some m ∧ n ≤ m ∧ m < n + k ∧ G m ∧ (∀ j, n ≤ j → j < m → ¬ G j) ∧ E m (nxF ev ok k n q).2 := by
  intro k
  induction k with
  | zero => intro n q _; exact Or.inl ⟨rfl, fun j h1 h2 => absurd h2 (by omega)⟩
  | succ k ih =>
    intro n q hk
    unfold nxF
    by_cases hq : ok (ev n q).2 = true
    · rw [if_pos hq]
      exact Or.inr ⟨n, rfl, Nat.le_refl _, by omega, (hg n q (by omega)).mp hq, fun j h1 h2 => absurd h2 (by omega), hE n q (by omega)⟩
    · rw [if_neg hq]
      have hng : ¬ G n := fun g => hq ((hg n q (by omega)).mpr g)
      rcases ih (n + 1) (ev n q) (by omega) with ⟨a1, a2⟩ | ⟨m, a1, a2, a3, a4, a5, a6⟩
      · refine Or.inl ⟨a1, fun j h1 h2 => ?_⟩
        by_cases e : j = n
        · rw [e]; exact hng
        · exact a2 j (by omega) (by omega)
      · refine Or.inr ⟨m, a1, by omega, by omega, a4, fun j h1 h2 => ?_, a6⟩
        by_cases e : j = n
        · rw [e]; exact hng
        · exact a5 j (by omega) h2
/-- the walk over all good assignments -/
theorem itS_spec {α : Type} {ev : Nat → Qs → Qs} {ok : (Nat → Bool) → Bool} {N : Nat} {G : Nat → Prop} {E : Nat → Qs → Prop} (hg : ∀ n q, n < N → (ok (ev n q).2 = true ↔ G n)) (hE : ∀ n q, n < N → E n (ev n q)) {up : Nat → Qs → α → α} {a0 : α} {q0 : Qs} {P : Nat → α → Prop} (h0 : P 0 a0) (hskip : ∀ n a, n < N → P n a → ¬ G n → P (n + 1) a) (hup : ∀ n q a, n < N → G n → E n q → P n a → P (n + 1) (up n q a)) :
    ∀ i, ((itS (fun m q => nxF ev ok (N - m) m q) up (nxF ev ok (N - 0) 0 q0) a0 i).1.1 = none ∧ P N (itS (fun m q => nxF ev ok (N - m) m q) up (nxF ev ok (N - 0) 0 q0) a0 i).2) ∨ ∃ n, (itS (fun m q => nxF ev ok (N - m) m q) up (nxF ev ok (N - 0) 0 q0) a0 i).1.1 = some n ∧ i ≤ n ∧ n < N ∧ G n ∧ E n (itS (fun m q => nxF ev ok (N - m) m q) up (nxF ev ok (N - 0) 0 q0) a0 i).1.2 ∧ P n (itS (fun m q => nxF ev ok (N - m) m q) up (nxF ev ok (N - 0) 0 q0) a0 i).2 := by
  have walk : ∀ d n a, n + d ≤ N → P n a → (∀ j, n ≤ j → j < n + d → ¬ G j) → P (n + d) a := by
    intro d
    induction d with
    | zero => intro n a _ h _; exact h
    | succ d ih =>
      intro n a h1 h2 h3
      exact hskip (n + d) a (by omega) (ih n a (by omega) h2 (fun j q1 q2 => h3 j q1 (by omega))) (h3 (n + d) (by omega) (by omega))
  intro i
  induction i with
  | zero =>
    show ((nxF ev ok (N - 0) 0 q0).1 = none ∧ P N a0) ∨ ∃ n, (nxF ev ok (N - 0) 0 q0).1 = some n ∧ 0 ≤ n ∧ n < N ∧ G n ∧ E n (nxF ev ok (N - 0) 0 q0).2 ∧ P n a0
    rcases nxF_spec hg hE (N - 0) 0 q0 (by omega) with ⟨a1, a2⟩ | ⟨m, a1, a2, a3, a4, a5, a6⟩
    · refine Or.inl ⟨a1, ?_⟩
      have := walk N 0 a0 (by omega) h0 (fun j q1 q2 => a2 j q1 (by omega))
      rw [Nat.zero_add] at this
      exact this
    · refine Or.inr ⟨m, a1, Nat.zero_le _, by omega, a4, a6, ?_⟩
      have := walk m 0 a0 (by omega) h0 (fun j q1 q2 => a5 j q1 (by omega))
      rw [Nat.zero_add] at this
      exact this
  | succ i ih =>
    rcases ih with ⟨c1, c2⟩ | ⟨n, c1, c2, c3, c4, c5, c6⟩
    · rw [itS_none c1]
      exact Or.inl ⟨c1, c2⟩
    · rw [itS_some c1]
      have hp := hup n _ _ c3 c4 c5 c6
      rcases nxF_spec hg hE (N - (n + 1)) (n + 1) (itS (fun m q => nxF ev ok (N - m) m q) up (nxF ev ok (N - 0) 0 q0) a0 i).1.2 (by omega) with ⟨a1, a2⟩ | ⟨m, a1, a2, a3, a4, a5, a6⟩
      · refine Or.inl ⟨a1, ?_⟩
        have := walk (N - (n + 1)) (n + 1) _ (by omega) hp (fun j q1 q2 => a2 j q1 (by omega))
        rw [show n + 1 + (N - (n + 1)) = N by omega] at this
        exact this
      · refine Or.inr ⟨m, a1, by omega, by omega, a4, a6, ?_⟩
        have := walk (m - (n + 1)) (n + 1) _ (by omega) hp (fun j q1 q2 => a5 j q1 (by omega))
        rw [show n + 1 + (m - (n + 1)) = m by omega] at this
        exact this
theorem itS_end {α : Type} {ev : Nat → Qs → Qs} {ok : (Nat → Bool) → Bool} {N : Nat} (hN : N ≤ 1024) {G : Nat → Prop} {E : Nat → Qs → Prop} (hg : ∀ n q, n < N → (ok (ev n q).2 = true ↔ G n)) (hE : ∀ n q, n < N → E n (ev n q)) {up : Nat → Qs → α → α} {a0 : α} {q0 : Qs} {P : Nat → α → Prop} (h0 : P 0 a0) (hskip : ∀ n a, n < N → P n a → ¬ G n → P (n + 1) a) (hup : ∀ n q a, n < N → G n → E n q → P n a → P (n + 1) (up n q a)) : P N (itS (fun m q => nxF ev ok (N - m) m q) up (nxF ev ok (N - 0) 0 q0) a0 1025).2 := by
  rcases itS_spec hg hE (q0 := q0) h0 hskip hup 1025 with ⟨-, c2⟩ | ⟨n, -, c2, c3, -⟩
  · exact c2
  · omega
