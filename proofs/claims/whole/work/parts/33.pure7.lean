/-! the tie between the solver's rows and the reference's items -/
def cT (od : Nat → Nat) : Nat → Nat
  | 0 => 0
  | k + 1 => if od k < 100 then cT od k + 1 else cT od k
theorem cT_le (od : Nat → Nat) : ∀ k, cT od k ≤ k := by
  intro k
  induction k with
  | zero => exact Nat.le_refl _
  | succ k ih =>
    show (if od k < 100 then cT od k + 1 else cT od k) ≤ k + 1
    split <;> omega
theorem cT_mono (od : Nat → Nat) : ∀ k j, k ≤ j → cT od k ≤ cT od j ∧ k - cT od k ≤ j - cT od j := by
  intro k j
  induction j with
  | zero => intro h; rw [show k = 0 by omega]; exact ⟨Nat.le_refl _, Nat.le_refl _⟩
  | succ j ih =>
    intro h
    rcases Nat.lt_or_ge j k with q | q
    · rw [show k = j + 1 by omega]; exact ⟨Nat.le_refl _, Nat.le_refl _⟩
    · have h1 := ih q
      have h2 := cT_le od j
      have h3 := cT_le od k
      show cT od k ≤ (if od j < 100 then cT od j + 1 else cT od j) ∧ k - cT od k ≤ j + 1 - (if od j < 100 then cT od j + 1 else cT od j)
      split <;> omega
theorem cT_congr {od od' : Nat → Nat} : ∀ k, (∀ j, j < k → od j = od' j) → cT od k = cT od' k := by
  intro k
  induction k with
  | zero => intro _; rfl
  | succ k ih =>
    intro h
    show (if od k < 100 then cT od k + 1 else cT od k) = (if od' k < 100 then cT od' k + 1 else cT od' k)
    rw [ih (fun j hj => h j (by omega)), h k (by omega)]
theorem sW_congr {f g : Nat → Nat} {lo : Nat} : ∀ k, (∀ j, j < k → f (lo + j) = g (lo + j)) → sW f lo k = sW g lo k := by
  intro k
  induction k with
  | zero => intro _; rfl
  | succ k ih =>
    intro h
    show sW f lo k + f (lo + k) = sW g lo k + g (lo + k)
    rw [ih (fun j hj => h j (by omega)), h k (by omega)]
theorem sW_split (f : Nat → Nat) (lo a : Nat) : ∀ k, sW f lo (a + k) = sW f lo a + sW f (lo + a) k := by
  intro k
  induction k with
  | zero => rfl
  | succ k ih =>
    show sW f lo (a + k) + f (lo + (a + k)) = sW f lo a + (sW f (lo + a) k + f (lo + a + k))
    rw [ih, show lo + (a + k) = lo + a + k by omega]
    omega
theorem rawI_congr {nv nt nf k a : Nat} {b c : Int32} {gv gv' V V' tw tw' : Nat → Nat} {H H' : Nat → Bool} (ok : okT nv nt nf k a b c) (hn : nt < 2 ^ 31) (hg : ∀ v, v < nv → gv v = gv' v) (hV : ∀ j, j < nt → V j = V' j) (hH : ∀ j, j < nf → H j = H' j) (ht : ∀ j, j < nt → tw j = tw' j) : rawI k a (nB b) (nB c) gv V H tw = rawI k a (nB b) (nB c) gv' V' H' tw' := by
  rcases ok with ⟨rfl, ha⟩ | ⟨rfl, ha⟩ | ⟨hk, ha, j, hj, rfl⟩ | ⟨rfl, ha⟩ | ⟨hk, ha, j, hj, rfl⟩ | ⟨rfl, ha, ⟨j, hj, rfl⟩, q, hq, rfl⟩
  · rfl
  · show nI (gv a) = nI (gv' a)
    rw [hg a ha]
  · rw [nB_I (by omega)]
    rcases (show k = 2 ∨ k = 3 ∨ k = 4 ∨ k = 5 ∨ k = 6 ∨ k = 7 ∨ k = 13 by omega) with rfl | rfl | rfl | rfl | rfl | rfl | rfl <;> simp only [rawI, hV a ha, hV j hj, ht a ha]
  · simp only [rawI, hV a ha]
  · rcases (show k = 9 ∨ k = 10 ∨ k = 11 ∨ k = 14 by omega) with rfl | rfl | rfl | rfl <;> simp only [rawI, hV a ha, ht a ha]
  · rw [nB_I (by omega), nB_I (by omega)]
    simp only [rawI, hH a ha, hV j hj, hV q hq]
theorem truB_congr {nt nf k a : Nat} {b : Int32} {V V' tw tw' : Nat → Nat} {H H' : Nat → Bool} (ok : okF nt nf k a b) (hn : nt < 2 ^ 31 ∧ nf < 2 ^ 31) (hV : ∀ j, j < nt → V j = V' j) (hH : ∀ j, j < nf → H j = H' j) (ht : ∀ j, j < nt → tw j = tw' j) : truB k a (nB b) V H tw = truB k a (nB b) V' H' tw' := by
  rcases ok with ⟨hk, ha, j, hj, rfl⟩ | ⟨rfl, ha, j, hj, rfl⟩ | ⟨rfl, ha⟩ | ⟨hk, hk2, ha, j, hj, rfl⟩
  · rw [nB_I (by omega)]
    rcases (show k = 0 ∨ k = 1 ∨ k = 2 ∨ k = 3 ∨ k = 4 by omega) with rfl | rfl | rfl | rfl | rfl <;> simp only [truB, hV a ha, hV j hj, ht a ha, ht j hj]
  · simp only [truB, hV a ha]
  · simp only [truB, hH a ha]
  · rw [nB_I (by omega)]
    rcases (show k = 7 ∨ k = 8 ∨ k = 9 ∨ k = 10 by omega) with rfl | rfl | rfl | rfl <;> simp only [truB, hH a ha, hH j hj]
theorem okT_mono {nv nt nf nv' nt' nf' k a : Nat} {b c : Int32} (h : okT nv nt nf k a b c) (h1 : nv ≤ nv') (h2 : nt ≤ nt') (h3 : nf ≤ nf') : okT nv' nt' nf' k a b c := by
  rcases h with ⟨hk, ha⟩ | ⟨hk, ha⟩ | ⟨hk, ha, j, hj, e⟩ | ⟨hk, ha⟩ | ⟨hk, ha, j, hj, e⟩ | ⟨hk, ha, ⟨j, hj, e⟩, q, hq, e2⟩
  · exact Or.inl ⟨hk, ha⟩
  · exact Or.inr (Or.inl ⟨hk, by omega⟩)
  · exact Or.inr (Or.inr (Or.inl ⟨hk, by omega, j, by omega, e⟩))
  · exact Or.inr (Or.inr (Or.inr (Or.inl ⟨hk, by omega⟩)))
  · exact Or.inr (Or.inr (Or.inr (Or.inr (Or.inl ⟨hk, by omega, j, hj, e⟩))))
  · exact Or.inr (Or.inr (Or.inr (Or.inr (Or.inr ⟨hk, by omega, ⟨j, by omega, e⟩, q, by omega, e2⟩))))
theorem okF_mono {nt nf nt' nf' k a : Nat} {b : Int32} (h : okF nt nf k a b) (h2 : nt ≤ nt') (h3 : nf ≤ nf') : okF nt' nf' k a b := by
  rcases h with ⟨hk, ha, j, hj, e⟩ | ⟨hk, ha, j, hj, e⟩ | ⟨hk, ha⟩ | ⟨hk, hk2, ha, j, hj, e⟩
  · exact Or.inl ⟨hk, by omega, j, by omega, e⟩
  · exact Or.inr (Or.inl ⟨hk, by omega, j, hj, e⟩)
  · exact Or.inr (Or.inr (Or.inl ⟨hk, by omega⟩))
  · exact Or.inr (Or.inr (Or.inr ⟨hk, hk2, by omega, j, by omega, e⟩))
theorem okT_d {nv nt nf k a wd : Nat} {vw tw : Nat → Nat} {b c : Int32} (ht : ∀ j, j < nt → 1 ≤ tw j ∧ tw j ≤ 4) (ha31 : a < 2 ^ 31) (h : dT nv nt nf vw tw k a b c wd) : okT nv nt nf k a b c := by
  rcases h with ⟨hk, e, ha⟩ | ⟨hk, ha, e⟩ | ⟨hk2, hk7, ha, ea, j, hj, e, ej⟩ | ⟨hk, ha, ea⟩ | ⟨hk2, hk7, ha, ea, j, hj, e⟩ | ⟨hk, ha, i, j, hi, hj, e1, e2, ei, ej⟩ | ⟨hk, ha, j, hj, e, es⟩ | ⟨hk, ha, j, q, e1, e2, hjq, hq, es⟩
  · exact Or.inl ⟨hk, ha31⟩
  · exact Or.inr (Or.inl ⟨hk, ha⟩)
  · exact Or.inr (Or.inr (Or.inl ⟨Or.inl ⟨hk2, hk7⟩, ha, j, hj, e⟩))
  · exact Or.inr (Or.inr (Or.inr (Or.inl ⟨hk, ha⟩)))
  · exact Or.inr (Or.inr (Or.inr (Or.inr (Or.inl ⟨Or.inl ⟨hk2, hk7⟩, ha, j, hj, e⟩))))
  · exact Or.inr (Or.inr (Or.inr (Or.inr (Or.inr ⟨hk, ha, ⟨i, hi, e1⟩, j, hj, e2⟩))))
  · exact Or.inr (Or.inr (Or.inl ⟨Or.inr hk, ha, j, hj, e⟩))
  · have := ht a ha
    exact Or.inr (Or.inr (Or.inr (Or.inr (Or.inl ⟨Or.inr hk, ha, j, by omega, e1⟩))))
theorem okF_d {nt nf k a : Nat} {tw : Nat → Nat} {b : Int32} (ht : ∀ j, j < nt → 1 ≤ tw j ∧ tw j ≤ 4) (h : dF nt nf tw k a b) : okF nt nf k a b := by
  rcases h with ⟨hk, ha, j, hj, e, ej⟩ | ⟨hk, ha, j, e, hj⟩ | ⟨hk, ha⟩ | ⟨hk, hk2, ha, j, hj, e⟩
  · exact Or.inl ⟨hk, ha, j, hj, e⟩
  · have := ht a ha
    exact Or.inr (Or.inl ⟨hk, ha, j, by omega, e⟩)
  · exact Or.inr (Or.inr (Or.inl ⟨hk, ha⟩))
  · exact Or.inr (Or.inr (Or.inr ⟨hk, hk2, ha, j, hj, e⟩))
def Rplace (nv nb : Nat) (vw vp : Nat → Nat) : Prop := nb = sW vw 0 nv ∧ ∀ v, v < nv → vp v + sW vw 0 (v + 1) = 10
def Rord (nv nt nf : Nat) (tk ta : Nat → Nat) (tb tc : Nat → Int32) (fk fa : Nat → Nat) (fb : Nat → Int32) (od : Nat → Nat) : Prop :=
  (∀ k, k < nt + nf → (od k < 100 ∧ od k = cT od k ∧ okT nv (cT od k) (k - cT od k) (tk (cT od k)) (ta (cT od k)) (tb (cT od k)) (tc (cT od k))) ∨ (od k = 100 + (k - cT od k) ∧ okF (cT od k) (k - cT od k) (fk (k - cT od k)) (fa (k - cT od k)) (fb (k - cT od k)))) ∧ cT od (nt + nf) = nt
def Rbit (nt nf : Nat) (vw vp tw : Nat → Nat) (w : Nat → Int64) (tk ta : Nat → Nat) (tb tc : Nat → Int32) (fk fa : Nat → Nat) (fb : Nat → Int32) : Prop :=
  (∀ t, t < nt → ∀ x, x < 1024 → VX tw w x t = (rawI (tk t) (ta t) (nB (tb t)) (nB (tc t)) (gX vw vp x) (VX tw w x) (HX w x) tw).toBitVec.toNat % 2 ^ tw t) ∧ (∀ f, f < nf → ∀ x, x < 1024 → HX w x f = truB (fk f) (fa f) (nB (fb f)) (VX tw w x) (HX w x) tw)
def Rlev (na lv : Nat) (ab : Nat → Nat) (w : Nat → Int64) (sd aa : Nat → Nat) : Prop :=
  (∀ j, j ≤ lv → ∀ x, x < 1024 → (pBit w (250 + j) x = true ↔ ∀ i, i < (if j = lv then na else ab (j + 1)) → pBit w (sd i) x = true)) ∧ (∀ i, i < na → aa i ≤ lv) ∧ (∀ j, 1 ≤ j → j ≤ lv → ∀ i, i < na → (ab j ≤ i ↔ j ≤ aa i)) ∧ (∀ j, 1 ≤ j → j < lv → ab j ≤ ab (j + 1))
def Rel (nv nb nt nf na lv nm : Nat) (vw vp tw ab am : Nat → Nat) (w : Nat → Int64) (tk ta : Nat → Nat) (tb tc : Nat → Int32) (fk fa : Nat → Nat) (fb : Nat → Int32) (od sd aa vl : Nat → Nat) : Prop :=
  Bok nv nb nt nf na lv nm vw vp tw ab am ∧ Mok nv nb nt nf na lv nm vw tk ta tb tc tw fk fa fb od sd am vl ∧ Rplace nv nb vw vp ∧ Rord nv nt nf tk ta tb tc fk fa fb od ∧ Rbit nt nf vw vp tw w tk ta tb tc fk fa fb ∧ Rlev na lv ab w sd aa
theorem Rbit_keep {nv nt nf : Nat} {vw vp tw vw' vp' tw' : Nat → Nat} {w w' : Nat → Int64} {tk ta : Nat → Nat} {tb tc : Nat → Int32} {fk fa : Nat → Nat} {fb : Nat → Int32} (h : Rbit nt nf vw vp tw w tk ta tb tc fk fa fb) (hn : nt ≤ 50 ∧ nf ≤ 50) (oT : ∀ t, t < nt → okT nv nt nf (tk t) (ta t) (tb t) (tc t)) (oF : ∀ f, f < nf → okF nt nf (fk f) (fa f) (fb f))
    (hV : ∀ x, x < 1024 → ∀ t, t < nt → VX tw' w' x t = VX tw w x t) (hH : ∀ x, x < 1024 → ∀ f, f < nf → HX w' x f = HX w x f) (hg : ∀ x v, v < nv → gX vw' vp' x v = gX vw vp x v) (ht : ∀ j, j < nt → tw' j = tw j) : Rbit nt nf vw' vp' tw' w' tk ta tb tc fk fa fb := by
  refine ⟨fun t h1 x hx => ?_, fun f h1 x hx => ?_⟩
  · rw [hV x hx t h1, h.1 t h1 x hx, ht t h1, rawI_congr (oT t h1) (by omega) (fun v hv => hg x v hv) (hV x hx) (hH x hx) ht]
  · rw [hH x hx f h1, h.2 f h1 x hx, truB_congr (oF f h1) ⟨by omega, by omega⟩ (hV x hx) (hH x hx) ht]
theorem VX_rows {tw tw' : Nat → Nat} {w w' : Nat → Int64} {x t : Nat} (h4 : tw t ≤ 4) (ht : tw' t = tw t) (h : ∀ r, 50 + t * 4 ≤ r → r < 50 + t * 4 + 4 → pBit w' r x = pBit w r x) : VX tw' w' x t = VX tw w x t := by
  show vbits w' (50 + t * 4) x (tw' t) = vbits w (50 + t * 4) x (tw t)
  rw [ht]
  exact vbits_congr (tw t) (fun j hj => h _ (by omega) (by omega))
section RL
variable {nv nb nt nf na lv nm : Nat} {vw vp tw ab am : Nat → Nat} {w : Nat → Int64} {tk ta : Nat → Nat} {tb tc : Nat → Int32} {fk fa : Nat → Nat} {fb : Nat → Int32} {od sd aa vl : Nat → Nat}
theorem Rel_vl (h : Rel nv nb nt nf na lv nm vw vp tw ab am w tk ta tb tc fk fa fb od sd aa vl) {vl' : Nat → Nat} (hv : ∀ j, vl' j < 16) : Rel nv nb nt nf na lv nm vw vp tw ab am w tk ta tb tc fk fa fb od sd aa vl' := ⟨h.1, Mok_vl h.2.1 hv, h.2.2⟩
theorem Rel_w (h : Rel nv nb nt nf na lv nm vw vp tw ab am w tk ta tb tc fk fa fb od sd aa vl) {w' : Nat → Int64} (hw : ∀ r, r < 256 → ∀ x, x < 1024 → pBit w' r x = pBit w r x) : Rel nv nb nt nf na lv nm vw vp tw ab am w' tk ta tb tc fk fa fb od sd aa vl := by
  obtain ⟨hB, hM, hP, hO, hR, hL⟩ := h
  obtain ⟨m1, m2, m3, m4, m5, m6, m7, m8, m9, m10, m11, m12, m13, m14, m15⟩ := id hM
  refine ⟨hB, hM, hP, hO, Rbit_keep hR ⟨m3, m4⟩ m12 m13 (fun x hx t ht => VX_rows (m9 t ht).2 rfl (fun r _ _ => hw r (by omega) x hx)) (fun x hx f hf => hw f (by omega) x hx) (fun x v _ => rfl) (fun _ _ => rfl), ?_, hL.2⟩
  intro j hj x hx
  rw [hw (250 + j) (by omega) x hx, hL.1 j hj x hx]
  refine forall_congr' (fun i => ⟨fun q hi => ?_, fun q hi => ?_⟩)
  · have hi2 : i < na := by
      split at hi
      · exact hi
      · exact Nat.lt_of_lt_of_le hi (hB.2.2.2.2.2.2.2.2.2.2 (j + 1) (by omega) (by omega))
    rw [hw (sd i) (by have := m11 i hi2; omega) x hx]
    exact q hi
  · have hi2 : i < na := by
      split at hi
      · exact hi
      · exact Nat.lt_of_lt_of_le hi (hB.2.2.2.2.2.2.2.2.2.2 (j + 1) (by omega) (by omega))
    rw [← hw (sd i) (by have := m11 i hi2; omega) x hx]
    exact q hi
theorem Rel_variable (h : Rel nv nb nt nf na lv nm vw vp tw ab am w tk ta tb tc fk fa fb od sd aa vl) {wd : Nat} (h1 : 1 ≤ wd) (h4 : wd ≤ 4) (hn : nv < 6) (hb : nb + wd ≤ 10) : Rel (nv + 1) (nb + wd) nt nf na lv nm (updN vw nv wd) (updN vp nv (10 - (nb + wd))) tw ab am w tk ta tb tc fk fa fb od sd aa vl := by
  obtain ⟨hB, hM, hP, hO, hR, hL⟩ := h
  obtain ⟨m1, m2, m3, m4, m5, m6, m7, m8, m9, m10, m11, m12, m13, m14, m15⟩ := id hM
  obtain ⟨b1, b2, b3, b4, b5, b6, b7, b8, b9, b10, b11⟩ := id hB
  have es : ∀ k, k ≤ nv → sW (updN vw nv wd) 0 k = sW vw 0 k := fun k hk => sW_congr k (fun j hj => updN_ne _ _ (by omega))
  refine ⟨⟨by omega, hb, b3, b4, b5, b6, b7, fun j hj => ?_, b9, b10, b11⟩, ⟨by omega, hb, m3, m4, m5, m6, m7, fun j hj => ?_, m9, m10, m11, fun t ht => okT_mono (m12 t ht) (by omega) (Nat.le_refl _) (Nat.le_refl _), m13, m14, m15⟩, ⟨?_, fun v hv => ?_⟩, ⟨fun k hk => ?_, hO.2⟩, Rbit_keep hR ⟨m3, m4⟩ m12 m13 (fun _ _ _ _ => rfl) (fun _ _ _ _ => rfl) (fun x v hv => ?_) (fun _ _ => rfl), hL⟩
  · by_cases q : j = nv
    · subst q
      rw [updN_self, updN_self]
      omega
    · rw [updN_ne _ _ q, updN_ne _ _ q]
      exact b8 j (by omega)
  · by_cases q : j = nv
    · subst q
      rw [updN_self]
      omega
    · rw [updN_ne _ _ q]
      exact m8 j (by omega)
  · show nb + wd = sW (updN vw nv wd) 0 nv + updN vw nv wd (0 + nv)
    rw [es nv (Nat.le_refl _), Nat.zero_add, updN_self, ← hP.1]
  · by_cases q : v = nv
    · subst q
      show updN vp v (10 - (nb + wd)) v + (sW (updN vw v wd) 0 v + updN vw v wd (0 + v)) = 10
      rw [updN_self, es v (Nat.le_refl _), Nat.zero_add, updN_self, ← hP.1]
      omega
    · rw [updN_ne _ _ q, es (v + 1) (by omega)]
      exact hP.2 v (by omega)
  · rcases hO.1 k hk with ⟨q1, q2, q3⟩ | q
    · exact Or.inl ⟨q1, q2, okT_mono q3 (by omega) (Nat.le_refl _) (Nat.le_refl _)⟩
    · exact Or.inr q
  · show x / 2 ^ updN vp nv (10 - (nb + wd)) v % 2 ^ updN vw nv wd v = _
    rw [updN_ne _ _ (by omega), updN_ne _ _ (by omega)]
theorem Rlev_w (hB : Bok nv nb nt nf na lv nm vw vp tw ab am) (hsd : ∀ j, j < na → sd j < nf) (hL : Rlev na lv ab w sd aa) {w' : Nat → Int64} (hw : ∀ r, r < nf ∨ 250 ≤ r → r < 256 → ∀ x, x < 1024 → pBit w' r x = pBit w r x) : Rlev na lv ab w' sd aa := by
  have b4 := hB.2.2.2.1
  have b6 := hB.2.2.2.2.2.1
  refine ⟨?_, hL.2⟩
  intro j hj x hx
  rw [hw (250 + j) (by omega) (by omega) x hx, hL.1 j hj x hx]
  refine forall_congr' (fun i => ⟨fun q hi => ?_, fun q hi => ?_⟩)
  · have hi2 : i < na := by
      split at hi
      · exact hi
      · exact Nat.lt_of_lt_of_le hi (hB.2.2.2.2.2.2.2.2.2.2 (j + 1) (by omega) (by omega))
    rw [hw (sd i) (Or.inl (hsd i hi2)) (by have := hsd i hi2; omega) x hx]
    exact q hi
  · have hi2 : i < na := by
      split at hi
      · exact hi
      · exact Nat.lt_of_lt_of_le hi (hB.2.2.2.2.2.2.2.2.2.2 (j + 1) (by omega) (by omega))
    rw [← hw (sd i) (Or.inl (hsd i hi2)) (by have := hsd i hi2; omega) x hx]
    exact q hi
theorem upd_self {f : Nat → Int32} {k : Nat} {x : Int32} : upd f k x k = x := pk_us
theorem upd_ne {f : Nat → Int32} {k j : Nat} {x : Int32} (h : j ≠ k) : upd f k x j = f j := pk_un h
theorem Rel_term (h : Rel nv nb nt nf na lv nm vw vp tw ab am w tk ta tb tc fk fa fb od sd aa vl) {k a wd : Nat} {kb kc : Int32} (ha31 : a < 2 ^ 31) (h1 : 1 ≤ wd) (h4 : wd ≤ 4) (hnt : nt < 50) (hd : dT nv nt nf vw tw k a kb kc wd) :
    Rel nv nb (nt + 1) nf na lv nm vw vp (updN tw nt wd) ab am (tRes k a (nB kb) (nB kc) wd nt vw vp tw w) (updN tk nt k) (updN ta nt a) (upd tb nt kb) (upd tc nt kc) fk fa fb (updN od (nt + nf) nt) sd aa vl := by
  obtain ⟨hB, hM, hP, hO, hR, hL⟩ := h
  obtain ⟨m1, m2, m3, m4, m5, m6, m7, m8, m9, m10, m11, m12, m13, m14, m15⟩ := id hM
  obtain ⟨b1, b2, b3, b4, b5, b6, b7, b8, b9, b10, b11⟩ := id hB
  have hok := okT_d m9 ha31 hd
  have hval : ∀ x, x < 1024 → _ := fun x hx => tRes_val (w := w) hx hnt m4 b8 m9 h1 h4 hd
  have htw : ∀ j, j < nt → updN tw nt wd j = tw j := fun j hj => updN_ne _ _ (by omega)
  have htw4 : ∀ j, j < nt + 1 → 1 ≤ updN tw nt wd j ∧ updN tw nt wd j ≤ 4 := fun j hj => by
    by_cases q : j = nt
    · subst q; rw [updN_self]; exact ⟨h1, h4⟩
    · rw [htw j (by omega)]; exact m9 j (by omega)
  have eT : ∀ k, k ≤ nt + nf → cT (updN od (nt + nf) nt) k = cT od k := fun k hk => cT_congr k (fun j hj => updN_ne _ _ (by omega))
  have hV : ∀ x, x < 1024 → ∀ t, t < nt → VX (updN tw nt wd) (tRes k a (nB kb) (nB kc) wd nt vw vp tw w) x t = VX tw w x t := fun x hx t ht => VX_rows (m9 t ht).2 (htw t ht) (fun r _ _ => (hval x hx).2 r (by omega) (by omega))
  have hH : ∀ x, x < 1024 → ∀ f, f < nf → HX (tRes k a (nB kb) (nB kc) wd nt vw vp tw w) x f = HX w x f := fun x hx f hf => (hval x hx).2 f (by omega) (by omega)
  have hkeep := Rbit_keep hR ⟨m3, m4⟩ m12 m13 hV hH (fun x v _ => rfl : ∀ x v, v < nv → gX vw vp x v = gX vw vp x v) htw
  refine ⟨⟨b1, b2, by omega, b4, b5, b6, b7, b8, htw4, b10, b11⟩, ⟨m1, m2, by omega, m4, m5, m6, m7, m8, htw4, m10, m11, fun t ht => ?_, fun f hf => okF_mono (m13 f hf) (by omega) (Nat.le_refl _), fun z hz => ?_, m15⟩, hP, ⟨fun z hz => ?_, ?_⟩, ⟨fun t ht x hx => ?_, fun f hf x hx => hkeep.2 f hf x hx⟩, Rlev_w hB m11 hL (fun r hr h6 x hx => (hval x hx).2 r (by omega) h6)⟩
  · by_cases q : t = nt
    · subst q
      rw [updN_self, updN_self, upd_self, upd_self]
      exact okT_mono hok (Nat.le_refl _) (by omega) (Nat.le_refl _)
    · rw [updN_ne _ _ q, updN_ne _ _ q, upd_ne q, upd_ne q]
      exact okT_mono (m12 t (by omega)) (Nat.le_refl _) (by omega) (Nat.le_refl _)
  · by_cases q : z = nt + nf
    · subst q
      rw [updN_self]
      omega
    · rw [updN_ne _ _ q]
      have := m14 z (by omega)
      omega
  · by_cases q : z = nt + nf
    · subst q
      rw [updN_self, eT _ (Nat.le_refl _), hO.2, updN_self, updN_self, upd_self, upd_self, show nt + nf - nt = nf by omega]
      exact Or.inl ⟨by omega, rfl, hok⟩
    · have hz2 : z < nt + nf := by omega
      rw [updN_ne _ _ q, eT z (by omega)]
      have hc1 := cT_le od z
      rcases hO.1 z hz2 with ⟨q1, q2, q3⟩ | ⟨q1, q2⟩
      · have q4 : cT od z < nt := by
          have := m14 z hz2
          omega
        rw [updN_ne _ _ (by omega), updN_ne _ _ (by omega), upd_ne (by omega), upd_ne (by omega)]
        exact Or.inl ⟨q1, q2, q3⟩
      · exact Or.inr ⟨q1, q2⟩
  · rw [show nt + 1 + nf = (nt + nf) + 1 by omega]
    show (if updN od (nt + nf) nt (nt + nf) < 100 then cT (updN od (nt + nf) nt) (nt + nf) + 1 else cT (updN od (nt + nf) nt) (nt + nf)) = nt + 1
    rw [updN_self, if_pos (by omega), eT _ (Nat.le_refl _), hO.2]
  · by_cases q : t = nt
    · subst q
      have e1 : VX (updN tw t wd) (tRes k a (nB kb) (nB kc) wd t vw vp tw w) x t = vbits (tRes k a (nB kb) (nB kc) wd t vw vp tw w) (50 + t * 4) x wd := by
        show vbits _ _ x (updN tw t wd t) = _
        rw [updN_self]
      rw [e1, (hval x hx).1, updN_self, updN_self, updN_self, upd_self, upd_self, rawI_congr hok (by omega) (fun v _ => rfl) (fun j hj => (hV x hx j hj).symm) (fun j hj => (hH x hx j hj).symm) (fun j hj => (htw j hj).symm)]
    · rw [updN_ne tk _ q, updN_ne ta _ q, upd_ne q, upd_ne q]
      exact hkeep.1 t (by omega) x hx
theorem Rel_formula (h : Rel nv nb nt nf na lv nm vw vp tw ab am w tk ta tb tc fk fa fb od sd aa vl) {k a : Nat} {kb : Int32} (hnf : nf < 50) (hd : dF nt nf tw k a kb) :
    Rel nv nb nt (nf + 1) na lv nm vw vp tw ab am (fRes k a (nB kb) nf tw w) tk ta tb tc (updN fk nf k) (updN fa nf a) (upd fb nf kb) (updN od (nt + nf) (100 + nf)) sd aa vl := by
  obtain ⟨hB, hM, hP, hO, hR, hL⟩ := h
  obtain ⟨m1, m2, m3, m4, m5, m6, m7, m8, m9, m10, m11, m12, m13, m14, m15⟩ := id hM
  obtain ⟨b1, b2, b3, b4, b5, b6, b7, b8, b9, b10, b11⟩ := id hB
  have hok := okF_d m9 hd
  have hval : ∀ x, x < 1024 → _ := fun x hx => fRes_val (w := w) hx m3 hnf m9 hd
  have eT : ∀ k, k ≤ nt + nf → cT (updN od (nt + nf) (100 + nf)) k = cT od k := fun k hk => cT_congr k (fun j hj => updN_ne _ _ (by omega))
  have hV : ∀ x, x < 1024 → ∀ t, t < nt → VX tw (fRes k a (nB kb) nf tw w) x t = VX tw w x t := fun x hx t ht => VX_rows (m9 t ht).2 rfl (fun r _ _ => (hval x hx).2 r (by omega) (by omega))
  have hH : ∀ x, x < 1024 → ∀ f, f < nf → HX (fRes k a (nB kb) nf tw w) x f = HX w x f := fun x hx f hf => (hval x hx).2 f (by omega) (by omega)
  have hkeep := Rbit_keep hR ⟨m3, m4⟩ m12 m13 hV hH (fun x v _ => rfl : ∀ x v, v < nv → gX vw vp x v = gX vw vp x v) (fun _ _ => rfl)
  refine ⟨⟨b1, b2, b3, by omega, b5, b6, b7, b8, b9, fun j hj => by have := b10 j hj; omega, b11⟩, ⟨m1, m2, m3, by omega, m5, m6, m7, m8, m9, fun j hj => by have := m10 j hj; omega, fun j hj => by have := m11 j hj; omega, fun t ht => okT_mono (m12 t ht) (Nat.le_refl _) (Nat.le_refl _) (by omega), fun f hf => ?_, fun z hz => ?_, m15⟩, hP, ⟨fun z hz => ?_, ?_⟩, ⟨fun t ht x hx => hkeep.1 t ht x hx, fun f hf x hx => ?_⟩, Rlev_w hB m11 hL (fun r hr h6 x hx => (hval x hx).2 r (by omega) h6)⟩
  · by_cases q : f = nf
    · subst q
      rw [updN_self, updN_self, upd_self]
      exact okF_mono hok (Nat.le_refl _) (by omega)
    · rw [updN_ne _ _ q, updN_ne _ _ q, upd_ne q]
      exact okF_mono (m13 f (by omega)) (Nat.le_refl _) (by omega)
  · by_cases q : z = nt + nf
    · subst q
      rw [updN_self]
      omega
    · rw [updN_ne _ _ q]
      have := m14 z (by omega)
      omega
  · by_cases q : z = nt + nf
    · subst q
      rw [updN_self, eT _ (Nat.le_refl _), hO.2, show nt + nf - nt = nf by omega, updN_self, updN_self, upd_self]
      exact Or.inr ⟨rfl, hok⟩
    · have hz2 : z < nt + nf := by omega
      rw [updN_ne _ _ q, eT z (by omega)]
      have hc1 := cT_le od z
      rcases hO.1 z hz2 with ⟨q1, q2, q3⟩ | ⟨q1, q2⟩
      · exact Or.inl ⟨q1, q2, q3⟩
      · have q4 : z - cT od z < nf := by
          have := m14 z hz2
          omega
        rw [updN_ne _ _ (by omega), updN_ne _ _ (by omega), upd_ne (by omega)]
        exact Or.inr ⟨q1, q2⟩
  · rw [show nt + (nf + 1) = (nt + nf) + 1 by omega]
    show (if updN od (nt + nf) (100 + nf) (nt + nf) < 100 then cT (updN od (nt + nf) (100 + nf)) (nt + nf) + 1 else cT (updN od (nt + nf) (100 + nf)) (nt + nf)) = nt
    rw [updN_self, if_neg (by omega), eT _ (Nat.le_refl _), hO.2]
  · by_cases q : f = nf
    · subst q
      rw [show HX (fRes k a (nB kb) f tw w) x f = _ from (hval x hx).1, updN_self, updN_self, upd_self, truB_congr hok ⟨by omega, by omega⟩ (fun j hj => (hV x hx j hj).symm) (fun j hj => (hH x hx j hj).symm) (fun _ _ => rfl)]
    · rw [updN_ne fk _ q, updN_ne fa _ q, upd_ne q]
      exact hkeep.2 f (by omega) x hx
end RL
