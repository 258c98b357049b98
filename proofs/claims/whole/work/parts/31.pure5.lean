/-! what the building methods do, bit by bit: shifts, choice, product, numbers, variables -/
theorem cDownN_inv {to a wd way : Nat} {sg : Bool} (w : Nat → Int64) {x : Nat} (hx : x < 1024) : ∀ k, k ≤ wd → to + wd ≤ 260 → (a + wd ≤ to ∨ to + wd ≤ a) →
    (∀ j, j < k → pBit (cDownN to a wd way sg k w) (to + j) x = if j + way < wd then pBit w (a + j + way) x else if sg = true then pBit w (a + wd - 1) x else false) ∧ ∀ r, (r < to ∨ to + k ≤ r) → pBit (cDownN to a wd way sg k w) r x = pBit w r x := by
  intro k
  induction k with
  | zero => intro _ _ _; exact ⟨fun j hj => absurd hj (Nat.not_lt_zero j), fun r _ => rfl⟩
  | succ k ih =>
    intro hk h1 h2
    obtain ⟨i1, i2⟩ := ih (by omega) h1 h2
    have hs : ∀ r, pBit (cDownN to a wd way sg (k + 1) w) r x = if r = to + k then (if k + way < wd then pBit w (a + k + way) x else if sg = true then pBit w (a + wd - 1) x else false) else pBit (cDownN to a wd way sg k w) r x := by
      intro r
      by_cases hw : k + way < wd
      · rw [show cDownN to a wd way sg (k + 1) w = oCopy (to + k) (a + k + way) 1 (cDownN to a wd way sg k w) from if_pos hw, pb_copy1 _ _ _ hx, if_pos hw, i2 (a + k + way) (by omega)]
      · by_cases hg : sg = true
        · rw [show cDownN to a wd way sg (k + 1) w = oCopy (to + k) (a + wd - 1) 1 (cDownN to a wd way sg k w) from (if_neg hw).trans (if_pos hg), pb_copy1 _ _ _ hx, if_neg hw, if_pos hg, i2 (a + wd - 1) (by omega)]
        · rw [show cDownN to a wd way sg (k + 1) w = oFill false (to + k) 1 (cDownN to a wd way sg k w) from (if_neg hw).trans (if_neg hg), pb_fill1 _ _ _ hx, if_neg hw, if_neg hg]
    refine ⟨fun j hj => ?_, fun r hr => ?_⟩
    · rw [hs]
      by_cases q : j = k
      · subst q
        rw [if_pos rfl]
      · rw [if_neg (by omega)]
        exact i1 j (by omega)
    · rw [hs, if_neg (by omega)]
      exact i2 r (by omega)
theorem cChoN_inv {to cd ye no : Nat} (w : Nat → Int64) {x : Nat} (hx : x < 1024) : ∀ k, (cd < to ∨ to + k ≤ cd) → (ye + k ≤ to ∨ to + k ≤ ye) → (no + k ≤ to ∨ to + k ≤ no) →
    (∀ j, j < k → pBit (cChoN to cd ye no k w) (to + j) x = if pBit w cd x = true then pBit w (ye + j) x else pBit w (no + j) x) ∧ ∀ r, (r < to ∨ to + k ≤ r) → pBit (cChoN to cd ye no k w) r x = pBit w r x := by
  intro k
  induction k with
  | zero => intro _ _ _; exact ⟨fun j hj => absurd hj (Nat.not_lt_zero j), fun r _ => rfl⟩
  | succ k ih =>
    intro h1 h2 h3
    obtain ⟨i1, i2⟩ := ih (by omega) (by omega) (by omega)
    have hs : ∀ r, pBit (cChoN to cd ye no (k + 1) w) r x = if r = to + k then (if pBit w cd x = true then pBit w (ye + k) x else pBit w (no + k) x) else pBit (cChoN to cd ye no k w) r x := by
      intro r
      show pBit (oChoose (to + k) cd (ye + k) (no + k) (cChoN to cd ye no k w)) r x = _
      rw [pb_choose _ _ _ _ _ hx, i2 cd (by omega), i2 (ye + k) (by omega), i2 (no + k) (by omega)]
    refine ⟨fun j hj => ?_, fun r hr => ?_⟩
    · rw [hs]
      by_cases q : j = k
      · subst q
        rw [if_pos rfl]
      · rw [if_neg (by omega)]
        exact i1 j (by omega)
    · rw [hs, if_neg (by omega)]
      exact i2 r (by omega)
theorem oNum_inv {to num : Nat} (w : Nat → Int64) {x : Nat} (hx : x < 1024) : ∀ k,
    (∀ j, j < k → pBit (oNum to num k w) (to + j) x = decide (num / 2 ^ j % 2 = 1)) ∧ ∀ r, (r < to ∨ to + k ≤ r) → pBit (oNum to num k w) r x = pBit w r x := by
  intro k
  induction k with
  | zero => exact ⟨fun j hj => absurd hj (Nat.not_lt_zero j), fun r _ => rfl⟩
  | succ k ih =>
    obtain ⟨i1, i2⟩ := ih
    have hs : ∀ r, pBit (oNum to num (k + 1) w) r x = if r = to + k then decide (num / 2 ^ k % 2 = 1) else pBit (oNum to num k w) r x := fun r => pb_fill1 _ _ _ hx
    refine ⟨fun j hj => ?_, fun r hr => ?_⟩
    · rw [hs]
      by_cases q : j = k
      · subst q
        rw [if_pos rfl]
      · rw [if_neg (by omega)]
        exact i1 j (by omega)
    · rw [hs, if_neg (by omega)]
      exact i2 r (by omega)
theorem oVar_inv {to pl : Nat} (w : Nat → Int64) {x : Nat} (hx : x < 1024) : ∀ k, pl + k ≤ 10 →
    (∀ j, j < k → pBit (oVar to pl k w) (to + j) x = decide (x / 2 ^ (pl + j) % 2 = 1)) ∧ ∀ r, (r < to ∨ to + k ≤ r) → pBit (oVar to pl k w) r x = pBit w r x := by
  intro k
  induction k with
  | zero => intro _; exact ⟨fun j hj => absurd hj (Nat.not_lt_zero j), fun r _ => rfl⟩
  | succ k ih =>
    intro hk
    obtain ⟨i1, i2⟩ := ih (by omega)
    have hs : ∀ r, pBit (oVar to pl (k + 1) w) r x = if r = to + k then decide (x / 2 ^ (pl + k) % 2 = 1) else pBit (oVar to pl k w) r x := fun r => pb_place _ _ _ hx (by omega)
    refine ⟨fun j hj => ?_, fun r hr => ?_⟩
    · rw [hs]
      by_cases q : j = k
      · subst q
        rw [if_pos rfl]
      · rw [if_neg (by omega)]
        exact i1 j (by omega)
    · rw [hs, if_neg (by omega)]
      exact i2 r (by omega)
/-- a number below 2^k is what its bits say -/
theorem vbits_num (w : Nat → Int64) (row x : Nat) : ∀ k N, N < 2 ^ k → (∀ j, j < k → pBit w (row + j) x = decide (N / 2 ^ j % 2 = 1)) → vbits w row x k = N := by
  intro k
  induction k with
  | zero => intro N hN _; show (0 : Nat) = N; omega
  | succ k ih =>
    intro N hN h
    have e : 2 ^ (k + 1) = 2 * 2 ^ k := by rw [Nat.pow_succ]; omega
    rw [e] at hN
    have hp : 0 < 2 ^ k := Nat.two_pow_pos k
    have hd : N = 2 ^ k * (N / 2 ^ k) + N % 2 ^ k := (Nat.div_add_mod N (2 ^ k)).symm
    have hm : N % 2 ^ k < 2 ^ k := Nat.mod_lt _ hp
    have hq : N / 2 ^ k < 2 := Nat.div_lt_of_lt_mul (by omega)
    have h1 := ih (N % 2 ^ k) hm (fun j hj => by
      rw [h j (by omega)]
      have e3 : N % 2 ^ k / 2 ^ j % 2 = N / 2 ^ j % 2 := by
        have a1 := Nat.testBit_eq_decide_div_mod_eq (x := N % 2 ^ k) (i := j)
        have a2 := Nat.testBit_eq_decide_div_mod_eq (x := N) (i := j)
        rw [Nat.testBit_mod_two_pow] at a1
        rw [a2, decide_eq_true hj, Bool.true_and] at a1
        have b1 : N % 2 ^ k / 2 ^ j % 2 < 2 := Nat.mod_lt _ (by decide)
        have b2 : N / 2 ^ j % 2 < 2 := Nat.mod_lt _ (by decide)
        by_cases c : N / 2 ^ j % 2 = 1
        · rw [decide_eq_true c] at a1
          have := of_decide_eq_true a1.symm
          omega
        · rw [decide_eq_false c] at a1
          have := of_decide_eq_false a1.symm
          omega
      rw [e3])
    rw [vbits_s, h1, h k (by omega)]
    have q01 : N / 2 ^ k = 0 ∨ N / 2 ^ k = 1 := (Nat.lt_or_ge (N / 2 ^ k) 1).elim (fun q => Or.inl (Nat.lt_one_iff.mp q)) (fun q => Or.inr (Nat.le_antisymm (Nat.lt_succ_iff.mp hq) q))
    rcases q01 with q | q
    · rw [q] at hd ⊢
      rw [if_neg (by decide)]
      omega
    · rw [q] at hd ⊢
      rw [if_pos (by decide)]
      omega
theorem vbits_pb (w : Nat → Int64) (row x : Nat) {n k : Nat} (h : k < n) : pBit w (row + k) x = decide (vbits w row x n / 2 ^ k % 2 = 1) := by
  cases hb : pBit w (row + k) x with
  | true => exact (decide_eq_true ((vbits_bit w row x n k h).mpr hb)).symm
  | false => exact (decide_eq_false (fun q => by rw [(vbits_bit w row x n k h).mp q] at hb; cases hb)).symm
theorem cProd_step {to a b sh wd : Nat} (w : Nat → Int64) {x : Nat} (hx : x < 1024) (hsh : sh < wd) (h1 : to + wd ≤ 250) (h2 : a + wd ≤ to ∨ to + wd ≤ a) (h3 : a + wd ≤ 250) (h4 : b + wd ≤ to ∨ to + wd ≤ b) (h5 : b + wd ≤ 250) :
    vbits (cProdI to a b sh (wd - sh) (oFill false 257 1 w)) to x wd = (vbits w to x wd + 2 ^ sh * (bN (pBit w (b + sh) x) * vbits w a x wd)) % 2 ^ wd ∧ ∀ r, (r < to ∨ to + wd ≤ r) → r < 256 → pBit (cProdI to a b sh (wd - sh) (oFill false 257 1 w)) r x = pBit w r x := by
  have hf : ∀ r, r ≠ 257 → pBit (oFill false 257 1 w) r x = pBit w r x := fun r hr => by rw [pb_fill1 _ _ _ hx, if_neg hr]
  obtain ⟨i1, i2⟩ := cProdI_inv (to := to) (a := a) (b := b) (sh := sh) (oFill false 257 1 w) hx (by rw [pb_fill1 _ _ _ hx, if_pos rfl]) (by omega) (wd - sh) (by omega) (by omega) (by omega) (by omega)
  refine ⟨?_, fun r hr h6 => by rw [i2 r (by omega) (by omega) (by omega) (by omega) (by omega), hf r (by omega)]⟩
  rw [hf (b + sh) (by omega), vbits_congr (w' := w) (row' := to + sh) (wd - sh) (fun j hj => hf _ (by omega)) (row := to + sh) (w := oFill false 257 1 w), vbits_congr (w' := w) (row' := a) (wd - sh) (fun j hj => hf _ (by omega)) (row := a) (w := oFill false 257 1 w)] at i1
  have e1 := vbits_app (cProdI to a b sh (wd - sh) (oFill false 257 1 w)) to x sh (wd - sh)
  have e2 := vbits_app w to x sh (wd - sh)
  have e3 := vbits_app w a x (wd - sh) sh
  rw [show sh + (wd - sh) = wd by omega] at e1 e2
  rw [show wd - sh + sh = wd by omega] at e3
  have e4 : vbits (cProdI to a b sh (wd - sh) (oFill false 257 1 w)) to x sh = vbits w to x sh := vbits_congr sh (fun j hj => by rw [i2 _ (by omega) (by omega) (by omega) (by omega) (by omega), hf _ (by omega)])
  have hl := vbits_lt (cProdI to a b sh (wd - sh) (oFill false 257 1 w)) to x wd
  have hp : 2 ^ wd = 2 ^ sh * 2 ^ (wd - sh) := by rw [← Nat.pow_add, show sh + (wd - sh) = wd by omega]
  rw [e4] at e1
  have key : vbits w to x wd + 2 ^ sh * (bN (pBit w (b + sh) x) * vbits w a x wd) = vbits (cProdI to a b sh (wd - sh) (oFill false 257 1 w)) to x wd + 2 ^ wd * (bN (pBit (cProdI to a b sh (wd - sh) (oFill false 257 1 w)) 257 x) + bN (pBit w (b + sh) x) * vbits w (a + (wd - sh)) x sh) := by
    rw [e1, e2, e3, hp]
    generalize vbits (cProdI to a b sh (wd - sh) (oFill false 257 1 w)) (to + sh) x (wd - sh) = NH at i1
    generalize vbits w (to + sh) x (wd - sh) = OH at i1
    generalize vbits w a x (wd - sh) = VA at i1
    generalize vbits w (a + (wd - sh)) x sh = VH
    generalize bN (pBit (cProdI to a b sh (wd - sh) (oFill false 257 1 w)) 257 x) = C at i1
    generalize bN (pBit w (b + sh) x) = BB at i1
    generalize 2 ^ (wd - sh) = P at i1
    generalize vbits w to x sh = LO
    generalize 2 ^ sh = S
    have g1 : S * NH + S * (P * C) = S * OH + S * (BB * VA) := by rw [← Nat.mul_add, ← Nat.mul_add, i1]
    have g2 : S * (BB * (VA + P * VH)) = S * (BB * VA) + S * P * (BB * VH) := by
      rw [Nat.mul_add, Nat.mul_add, Nat.mul_assoc S P, ← Nat.mul_assoc BB P VH, Nat.mul_comm BB P, Nat.mul_assoc P BB VH]
    have g3 : S * P * (C + BB * VH) = S * (P * C) + S * P * (BB * VH) := by rw [Nat.mul_add, Nat.mul_assoc]
    rw [g2, g3]
    omega
  rw [key, Nat.add_mul_mod_self_left, Nat.mod_eq_of_lt hl]
theorem cProdO_inv {to a b wd : Nat} (w : Nat → Int64) {x : Nat} (hx : x < 1024) (h1 : to + wd ≤ 250) (h2 : a + wd ≤ to ∨ to + wd ≤ a) (h3 : a + wd ≤ 250) (h4 : b + wd ≤ to ∨ to + wd ≤ b) (h5 : b + wd ≤ 250) (h0 : vbits w to x wd = 0) : ∀ sh, sh ≤ wd →
    vbits (cProdO to a b wd sh w) to x wd = (vbits w a x wd * vbits w b x sh) % 2 ^ wd ∧ ∀ r, (r < to ∨ to + wd ≤ r) → r < 256 → pBit (cProdO to a b wd sh w) r x = pBit w r x := by
  intro sh
  induction sh with
  | zero =>
    intro _
    refine ⟨?_, fun r _ _ => rfl⟩
    show vbits w to x wd = (vbits w a x wd * 0) % 2 ^ wd
    rw [h0, Nat.mul_zero, Nat.zero_mod]
  | succ sh ih =>
    intro hsh
    obtain ⟨i1, i2⟩ := ih (by omega)
    obtain ⟨s1, s2⟩ := cProd_step (to := to) (a := a) (b := b) (sh := sh) (wd := wd) (cProdO to a b wd sh w) hx (by omega) h1 h2 h3 h4 h5
    refine ⟨?_, fun r hr h6 => (s2 r hr h6).trans (i2 r hr h6)⟩
    show vbits (cProdI to a b sh (wd - sh) (oFill false 257 1 (cProdO to a b wd sh w))) to x wd = _
    rw [s1, i1, i2 (b + sh) (by omega) (by omega), vbits_congr (w' := w) (row' := a) wd (fun j hj => i2 _ (by omega) (by omega)) (row := a) (w := cProdO to a b wd sh w), Nat.mod_add_mod, vbits_s]
    congr 1
    rw [Nat.mul_add]
    congr 1
    unfold bN
    by_cases hb : pBit w (b + sh) x = true
    · rw [if_pos hb, if_pos hb, Nat.one_mul, Nat.mul_comm]
    · rw [if_neg hb, if_neg hb, Nat.zero_mul, Nat.mul_zero, Nat.mul_zero]
theorem vbits_fill {to wd : Nat} (w : Nat → Int64) {x : Nat} (hx : x < 1024) : vbits (oFill false to wd w) to x wd = 0 := by
  refine vbits_num _ _ _ wd 0 (Nat.two_pow_pos wd) (fun j hj => ?_)
  rw [pb_fill _ _ _ _ hx, if_pos ⟨by omega, by omega⟩, Nat.zero_div]
  rfl
theorem cProd_val {to a b wd : Nat} (w : Nat → Int64) {x : Nat} (hx : x < 1024) (h1 : to + wd ≤ 250) (h2 : a + wd ≤ to ∨ to + wd ≤ a) (h3 : a + wd ≤ 250) (h4 : b + wd ≤ to ∨ to + wd ≤ b) (h5 : b + wd ≤ 250) : vbits (cProd to a b wd w) to x wd = (vbits w a x wd * vbits w b x wd) % 2 ^ wd ∧ ∀ r, (r < to ∨ to + wd ≤ r) → r < 256 → pBit (cProd to a b wd w) r x = pBit w r x := by
  have hf : ∀ r, (r < to ∨ to + wd ≤ r) → pBit (oFill false to wd w) r x = pBit w r x := fun r hr => by rw [pb_fill _ _ _ _ hx, if_neg (by omega)]
  obtain ⟨i1, i2⟩ := cProdO_inv (oFill false to wd w) hx h1 h2 h3 h4 h5 (vbits_fill w hx) wd (Nat.le_refl _)
  refine ⟨?_, fun r hr h6 => (i2 r hr h6).trans (hf r hr)⟩
  show vbits (cProdO to a b wd wd (oFill false to wd w)) to x wd = _
  rw [i1, vbits_congr (w' := w) (row' := a) wd (fun j hj => hf _ (by omega)) (row := a) (w := oFill false to wd w), vbits_congr (w' := w) (row' := b) wd (fun j hj => hf _ (by omega)) (row := b) (w := oFill false to wd w)]
