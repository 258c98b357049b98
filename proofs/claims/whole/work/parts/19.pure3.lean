theorem cDiffN_inv {to a b : Nat} (w : Nat → Int64) {x : Nat} (hx : x < 1024) (hc : pBit w 257 x = true) : ∀ k, to + k ≤ 250 → (a + k ≤ to ∨ to + k ≤ a) → a + k ≤ 250 → (b + k ≤ to ∨ to + k ≤ b) → b + k ≤ 250 →
    vbits (cDiffN to a b k w) to x k + 2 ^ k * bN (pBit (cDiffN to a b k w) 257 x) + vbits w b x k = vbits w a x k + 2 ^ k ∧ ∀ r, (r < to ∨ to + k ≤ r) → r ≠ 256 → r ≠ 257 → r ≠ 258 → r ≠ 259 → pBit (cDiffN to a b k w) r x = pBit w r x := by
  intro k
  induction k with
  | zero =>
    intro _ _ _ _ _
    refine ⟨?_, fun r _ _ _ _ _ => rfl⟩
    show 0 + 2 ^ 0 * bN (pBit w 257 x) + 0 = 0 + 2 ^ 0
    rw [hc]
    rfl
  | succ k ih =>
    intro h1 h2 h3 h4 h5
    obtain ⟨i1, i2⟩ := ih (by omega) (by omega) (by omega) (by omega) (by omega)
    have t1 : ∀ r, r ≠ 256 → pBit (oTurn 256 (b + k) 1 (cDiffN to a b k w)) r x = pBit (cDiffN to a b k w) r x := fun r hr => by rw [pb_turn1 _ _ _ hx, if_neg hr]
    have t2 : pBit (oTurn 256 (b + k) 1 (cDiffN to a b k w)) 256 x = !pBit (cDiffN to a b k w) (b + k) x := by rw [pb_turn1 _ _ _ hx, if_pos rfl]
    refine ⟨?_, fun r q1 q0 q2 q3 q4 => ?_⟩
    · show vbits (cAdd (to + k) (a + k) 256 (oTurn 256 (b + k) 1 (cDiffN to a b k w))) to x (k + 1) + 2 ^ (k + 1) * bN (pBit (cAdd (to + k) (a + k) 256 (oTurn 256 (b + k) 1 (cDiffN to a b k w))) 257 x) + _ = _
      rw [vbits_s, vbits_s, vbits_s, cAdd_to _ hx (by omega) (by omega) (by omega), cAdd_carry _ hx (by omega) (by omega) (by omega), vbits_congr (w' := cDiffN to a b k w) (row' := to) k (fun j hj => by rw [cAdd_else _ hx (by omega) (by omega) (by omega) (by omega), t1 _ (by omega)]), t1 (a + k) (by omega), t1 257 (by omega), t2, i2 (a + k) (by omega) (by omega) (by omega) (by omega) (by omega), i2 (b + k) (by omega) (by omega) (by omega) (by omega) (by omega)]
      have e : 2 ^ (k + 1) = 2 * 2 ^ k := by rw [Nat.pow_succ]; omega
      rw [e]
      generalize vbits (cDiffN to a b k w) to x k = V at i1 ⊢
      generalize vbits w a x k = VA at i1 ⊢
      generalize vbits w b x k = VB at i1 ⊢
      generalize pBit (cDiffN to a b k w) 257 x = C at i1 ⊢
      generalize pBit w (a + k) x = BA
      generalize pBit w (b + k) x = BB
      generalize 2 ^ k = P at i1 ⊢
      cases BA <;> cases BB <;> cases C <;> simp [bN] at i1 ⊢ <;> omega
    · show pBit (cAdd (to + k) (a + k) 256 (oTurn 256 (b + k) 1 (cDiffN to a b k w))) r x = _
      rw [cAdd_else _ hx (by omega) q2 q3 q4, t1 r q0]
      exact i2 r (by omega) q0 q2 q3 q4
theorem cProdI_inv {to a b sh : Nat} (w : Nat → Int64) {x : Nat} (hx : x < 1024) (hc : pBit w 257 x = false) (hb : b + sh < 250) : ∀ n, to + sh + n ≤ 250 → (a + n ≤ to ∨ to + sh + n ≤ a) → a + n ≤ 250 → (b + sh < to ∨ to + sh + n ≤ b + sh) →
    vbits (cProdI to a b sh n w) (to + sh) x n + 2 ^ n * bN (pBit (cProdI to a b sh n w) 257 x) = vbits w (to + sh) x n + bN (pBit w (b + sh) x) * vbits w a x n ∧ ∀ r, (r < to + sh ∨ to + sh + n ≤ r) → r ≠ 256 → r ≠ 257 → r ≠ 258 → r ≠ 259 → pBit (cProdI to a b sh n w) r x = pBit w r x := by
  intro n
  induction n with
  | zero =>
    intro _ _ _ _
    refine ⟨?_, fun r _ _ _ _ _ => rfl⟩
    show 0 + 2 ^ 0 * bN (pBit w 257 x) = 0 + _ * 0
    rw [hc]
    rfl
  | succ n ih =>
    intro h1 h2 h3 h4
    obtain ⟨i1, i2⟩ := ih (by omega) (by omega) (by omega) (by omega)
    have ea : a + (sh + n) - sh = a + n := by omega
    have et : to + (sh + n) = to + sh + n := by omega
    have t1 : ∀ r, r ≠ 256 → pBit (oAnd 256 (a + n) (b + sh) 1 (cProdI to a b sh n w)) r x = pBit (cProdI to a b sh n w) r x := fun r hr => by rw [pb_and1 _ _ _ _ hx, if_neg hr]
    have t2 : pBit (oAnd 256 (a + n) (b + sh) 1 (cProdI to a b sh n w)) 256 x = (pBit (cProdI to a b sh n w) (a + n) x && pBit (cProdI to a b sh n w) (b + sh) x) := by rw [pb_and1 _ _ _ _ hx, if_pos rfl]
    have hs : cProdI to a b sh (n + 1) w = cAdd (to + sh + n) (to + sh + n) 256 (oAnd 256 (a + n) (b + sh) 1 (cProdI to a b sh n w)) := by
      show cAdd (to + (sh + n)) (to + (sh + n)) 256 (oAnd 256 (a + (sh + n) - sh) (b + sh) 1 (cProdI to a b sh n w)) = _
      rw [ea, et]
    rw [hs]
    refine ⟨?_, fun r q1 q0 q2 q3 q4 => ?_⟩
    · rw [vbits_s, vbits_s, vbits_s, cAdd_to _ hx (by omega) (by omega) (by omega), cAdd_carry _ hx (by omega) (by omega) (by omega), vbits_congr (w' := cProdI to a b sh n w) (row' := to + sh) n (fun j hj => by rw [cAdd_else _ hx (by omega) (by omega) (by omega) (by omega), t1 _ (by omega)]), t1 (to + sh + n) (by omega), t1 257 (by omega), t2, i2 (a + n) (by omega) (by omega) (by omega) (by omega) (by omega), i2 (b + sh) (by omega) (by omega) (by omega) (by omega) (by omega), i2 (to + sh + n) (by omega) (by omega) (by omega) (by omega) (by omega)]
      have e : 2 ^ (n + 1) = 2 * 2 ^ n := by rw [Nat.pow_succ]; omega
      rw [e]
      generalize vbits (cProdI to a b sh n w) (to + sh) x n = V at i1 ⊢
      generalize vbits w a x n = VA at i1 ⊢
      generalize vbits w (to + sh) x n = VT at i1 ⊢
      generalize pBit (cProdI to a b sh n w) 257 x = C at i1 ⊢
      generalize pBit w (a + n) x = BA
      generalize pBit w (b + sh) x = BB at i1 ⊢
      generalize pBit w (to + sh + n) x = BT
      generalize 2 ^ n = P at i1 ⊢
      cases BA <;> cases BB <;> cases C <;> cases BT <;> simp [bN] at i1 ⊢ <;> omega
    · rw [cAdd_else _ hx (by omega) q2 q3 q4, t1 r q0]
      exact i2 r (by omega) q0 q2 q3 q4
theorem vbits_app (w : Nat → Int64) (row x a : Nat) : ∀ n, vbits w row x (a + n) = vbits w row x a + 2 ^ a * vbits w (row + a) x n := by
  intro n
  induction n with
  | zero => show vbits w row x a = vbits w row x a + 2 ^ a * 0; omega
  | succ n ih =>
    rw [← Nat.add_assoc, vbits_s, ih, vbits_s, show row + (a + n) = row + a + n by omega, Nat.pow_add, Nat.mul_add]
    split
    · omega
    · omega
