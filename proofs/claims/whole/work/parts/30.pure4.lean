/-! what the built rows say, for every assignment x -/
theorem cSum_val {to a b wd : Nat} (w : Nat → Int64) {x : Nat} (hx : x < 1024) (h1 : to + wd ≤ 250) (h2 : a + wd ≤ to ∨ to + wd ≤ a) (h3 : a + wd ≤ 250) (h4 : b + wd ≤ to ∨ to + wd ≤ b) (h5 : b + wd ≤ 250) : vbits (cSum to a b wd w) to x wd = (vbits w a x wd + vbits w b x wd) % 2 ^ wd := by
  unfold cSum
  have hf : ∀ r, r ≠ 257 → pBit (oFill false 257 1 w) r x = pBit w r x := fun r hr => by rw [pb_fill1 _ _ _ hx, if_neg hr]
  obtain ⟨i1, -⟩ := cSumN_inv (to := to) (a := a) (b := b) (oFill false 257 1 w) hx (by rw [pb_fill1 _ _ _ hx, if_pos rfl]) wd h1 h2 h3 h4 h5
  have ea : vbits (oFill false 257 1 w) a x wd = vbits w a x wd := vbits_congr wd (fun j hj => hf _ (by omega))
  have eb : vbits (oFill false 257 1 w) b x wd = vbits w b x wd := vbits_congr wd (fun j hj => hf _ (by omega))
  rw [ea, eb] at i1
  have hl := vbits_lt (cSumN to a b wd (oFill false 257 1 w)) to x wd
  rw [← i1, Nat.add_mul_mod_self_left, Nat.mod_eq_of_lt hl]
theorem cSum_else {to a b wd : Nat} (w : Nat → Int64) {r x : Nat} (hx : x < 1024) (h1 : to + wd ≤ 250) (h2 : a + wd ≤ to ∨ to + wd ≤ a) (h3 : a + wd ≤ 250) (h4 : b + wd ≤ to ∨ to + wd ≤ b) (h5 : b + wd ≤ 250) (hr : r < to ∨ to + wd ≤ r) (h6 : r < 256) : pBit (cSum to a b wd w) r x = pBit w r x := by
  unfold cSum
  obtain ⟨-, i2⟩ := cSumN_inv (to := to) (a := a) (b := b) (oFill false 257 1 w) hx (by rw [pb_fill1 _ _ _ hx, if_pos rfl]) wd h1 h2 h3 h4 h5
  rw [i2 r hr (by omega) (by omega) (by omega), pb_fill1 _ _ _ hx, if_neg (by omega)]
theorem cDiff_val {to a b wd : Nat} (w : Nat → Int64) {x : Nat} (hx : x < 1024) (h1 : to + wd ≤ 250) (h2 : a + wd ≤ to ∨ to + wd ≤ a) (h3 : a + wd ≤ 250) (h4 : b + wd ≤ to ∨ to + wd ≤ b) (h5 : b + wd ≤ 250) : vbits (cDiff to a b wd w) to x wd = (vbits w a x wd + 2 ^ wd - vbits w b x wd) % 2 ^ wd := by
  unfold cDiff
  have hf : ∀ r, r ≠ 257 → pBit (oFill true 257 1 w) r x = pBit w r x := fun r hr => by rw [pb_fill1 _ _ _ hx, if_neg hr]
  obtain ⟨i1, -⟩ := cDiffN_inv (to := to) (a := a) (b := b) (oFill true 257 1 w) hx (by rw [pb_fill1 _ _ _ hx, if_pos rfl]) wd h1 h2 h3 h4 h5
  have ea : vbits (oFill true 257 1 w) a x wd = vbits w a x wd := vbits_congr wd (fun j hj => hf _ (by omega))
  have eb : vbits (oFill true 257 1 w) b x wd = vbits w b x wd := vbits_congr wd (fun j hj => hf _ (by omega))
  rw [ea, eb] at i1
  have hl := vbits_lt (cDiffN to a b wd (oFill true 257 1 w)) to x wd
  have hb := vbits_lt w b x wd
  rw [show vbits w a x wd + 2 ^ wd - vbits w b x wd = vbits (cDiffN to a b wd (oFill true 257 1 w)) to x wd + 2 ^ wd * bN (pBit (cDiffN to a b wd (oFill true 257 1 w)) 257 x) by omega, Nat.add_mul_mod_self_left, Nat.mod_eq_of_lt hl]
theorem cDiff_else {to a b wd : Nat} (w : Nat → Int64) {r x : Nat} (hx : x < 1024) (h1 : to + wd ≤ 250) (h2 : a + wd ≤ to ∨ to + wd ≤ a) (h3 : a + wd ≤ 250) (h4 : b + wd ≤ to ∨ to + wd ≤ b) (h5 : b + wd ≤ 250) (hr : r < to ∨ to + wd ≤ r) (h6 : r < 256) : pBit (cDiff to a b wd w) r x = pBit w r x := by
  unfold cDiff
  obtain ⟨-, i2⟩ := cDiffN_inv (to := to) (a := a) (b := b) (oFill true 257 1 w) hx (by rw [pb_fill1 _ _ _ hx, if_pos rfl]) wd h1 h2 h3 h4 h5
  rw [i2 r hr (by omega) (by omega) (by omega) (by omega), pb_fill1 _ _ _ hx, if_neg (by omega)]
theorem cEqN_inv {to a b : Nat} (w : Nat → Int64) {x : Nat} (hx : x < 1024) : ∀ k, to < 250 → (a + k ≤ to ∨ to < a) → a + k ≤ 250 → (b + k ≤ to ∨ to < b) → b + k ≤ 250 →
    pBit (cEqN to a b k w) to x = (pBit w to x && decide (vbits w a x k = vbits w b x k)) ∧ ∀ r, r ≠ to → r ≠ 256 → pBit (cEqN to a b k w) r x = pBit w r x := by
  intro k
  induction k with
  | zero =>
    intro _ _ _ _ _
    refine ⟨?_, fun r _ _ => rfl⟩
    have e : decide (vbits w a x 0 = vbits w b x 0) = true := decide_eq_true rfl
    rw [e, Bool.and_true]
    rfl
  | succ k ih =>
    intro h1 h2 h3 h4 h5
    obtain ⟨i1, i2⟩ := ih h1 (by omega) (by omega) (by omega) (by omega)
    refine ⟨?_, fun r q1 q2 => ?_⟩
    · show pBit (oRemove to 256 (oXor 256 (a + k) (b + k) 1 (cEqN to a b k w))) to x = _
      rw [pb_remove _ _ _ hx, if_pos rfl, pb_xor1 _ _ _ _ hx, if_neg (by omega), pb_xor1 _ _ _ _ hx, if_pos rfl, i1, i2 (a + k) (by omega) (by omega), i2 (b + k) (by omega) (by omega), vbits_s, vbits_s]
      have ha := vbits_lt w a x k
      have hb := vbits_lt w b x k
      generalize vbits w a x k = VA at ha ⊢
      generalize vbits w b x k = VB at hb ⊢
      generalize 2 ^ k = P at ha hb ⊢
      cases pBit w to x <;> cases pBit w (a + k) x <;> cases pBit w (b + k) x <;> simp <;> omega
    · show pBit (oRemove to 256 (oXor 256 (a + k) (b + k) 1 (cEqN to a b k w))) r x = _
      rw [pb_remove _ _ _ hx, if_neg q1, pb_xor1 _ _ _ _ hx, if_neg q2]
      exact i2 r q1 q2
def lessF (A B : Nat → Bool) (wd : Nat) (sg : Bool) : Nat → Bool
  | 0 => false
  | k + 1 => if (A k ^^ B k) = true then (if sg = true ∧ k = wd - 1 then A k else B k) else lessF A B wd sg k
theorem lessF_congr {A B A' B' : Nat → Bool} {wd : Nat} {sg : Bool} : ∀ k, (∀ j, j < k → A j = A' j ∧ B j = B' j) → lessF A B wd sg k = lessF A' B' wd sg k := by
  intro k
  induction k with
  | zero => intro _; rfl
  | succ k ih =>
    intro h
    unfold lessF
    rw [ih (fun j hj => h j (by omega)), (h k (by omega)).1, (h k (by omega)).2]
theorem cLessN_inv {to a b wd : Nat} {sg : Bool} (w : Nat → Int64) {x : Nat} (hx : x < 1024) (h0 : pBit w to x = false) : ∀ k, to < 250 → k ≤ wd → (a + k ≤ to ∨ to < a) → a + k ≤ 250 → (b + k ≤ to ∨ to < b) → b + k ≤ 250 →
    pBit (cLessN to a b wd sg k w) to x = lessF (fun j => pBit w (a + j) x) (fun j => pBit w (b + j) x) wd sg k ∧ ∀ r, r ≠ to → r ≠ 256 → pBit (cLessN to a b wd sg k w) r x = pBit w r x := by
  intro k
  induction k with
  | zero =>
    intro _ _ _ _ _ _
    exact ⟨h0, fun r _ _ => rfl⟩
  | succ k ih =>
    intro h1 hk h2 h3 h4 h5
    obtain ⟨i1, i2⟩ := ih h1 (by omega) (by omega) (by omega) (by omega) (by omega)
    refine ⟨?_, fun r q1 q2 => ?_⟩
    · show pBit (oChoose to 256 (if sg = true ∧ k = wd - 1 then a + k else b + k) to (oXor 256 (a + k) (b + k) 1 (cLessN to a b wd sg k w))) to x = _
      have hne : ∀ r, r ≠ 256 → pBit (oXor 256 (a + k) (b + k) 1 (cLessN to a b wd sg k w)) r x = pBit (cLessN to a b wd sg k w) r x := fun r hr => by rw [pb_xor1 _ _ _ _ hx, if_neg hr]
      rw [pb_choose _ _ _ _ _ hx, if_pos rfl, pb_xor1 _ _ _ _ hx, if_pos rfl, i2 (a + k) (by omega) (by omega), i2 (b + k) (by omega) (by omega), hne to (by omega), i1]
      show _ = (if (pBit w (a + k) x ^^ pBit w (b + k) x) = true then (if sg = true ∧ k = wd - 1 then pBit w (a + k) x else pBit w (b + k) x) else lessF (fun j => pBit w (a + j) x) (fun j => pBit w (b + j) x) wd sg k)
      by_cases hs : sg = true ∧ k = wd - 1
      · rw [if_pos hs, if_pos hs, hne _ (by omega), i2 (a + k) (by omega) (by omega)]
      · rw [if_neg hs, if_neg hs, hne _ (by omega), i2 (b + k) (by omega) (by omega)]
    · show pBit (oChoose to 256 _ to (oXor 256 (a + k) (b + k) 1 (cLessN to a b wd sg k w))) r x = _
      rw [pb_choose _ _ _ _ _ hx, if_neg q1, pb_xor1 _ _ _ _ hx, if_neg q2]
      exact i2 r q1 q2
theorem cUpN_inv {to a way : Nat} (w : Nat → Int64) {x : Nat} (hx : x < 1024) : ∀ k, to + k ≤ 260 → (a + k ≤ to ∨ to + k ≤ a) →
    (∀ j, j < k → pBit (cUpN to a way k w) (to + j) x = if j < way then false else pBit w (a + j - way) x) ∧ ∀ r, (r < to ∨ to + k ≤ r) → pBit (cUpN to a way k w) r x = pBit w r x := by
  intro k
  induction k with
  | zero => intro _ _; exact ⟨fun j hj => absurd hj (Nat.not_lt_zero j), fun r _ => rfl⟩
  | succ k ih =>
    intro h1 h2
    obtain ⟨i1, i2⟩ := ih (by omega) (by omega)
    have hs : ∀ r, pBit (cUpN to a way (k + 1) w) r x = if r = to + k then (if k < way then false else pBit w (a + k - way) x) else pBit (cUpN to a way k w) r x := by
      intro r
      by_cases hw : k < way
      · rw [show cUpN to a way (k + 1) w = oFill false (to + k) 1 (cUpN to a way k w) from if_pos hw, pb_fill1 _ _ _ hx, if_pos hw]
      · rw [show cUpN to a way (k + 1) w = oCopy (to + k) (a + k - way) 1 (cUpN to a way k w) from if_neg hw, pb_copy1 _ _ _ hx, if_neg hw, i2 (a + k - way) (by omega)]
    refine ⟨fun j hj => ?_, fun r hr => ?_⟩
    · rw [hs]
      by_cases q : j = k
      · subst q
        rw [if_pos rfl]
      · rw [if_neg (by omega)]
        exact i1 j (by omega)
    · rw [hs, if_neg (by omega)]
      exact i2 r (by omega)
