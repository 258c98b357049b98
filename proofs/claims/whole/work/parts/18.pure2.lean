theorem lowB_spec {x : Int64} (h0 : ¬ x = 0) : ∀ n k : Nat, k + n = 63 → (∀ j, j < k → x.toBitVec.getLsbD j = false) → x.toBitVec.getLsbD (lowB x n k) = true ∧ (∀ j, j < lowB x n k → x.toBitVec.getLsbD j = false) ∧ lowB x n k < 64 := by
  intro n
  induction n with
  | zero =>
    intro k hk hj
    show x.toBitVec.getLsbD k = true ∧ (∀ j, j < k → x.toBitVec.getLsbD j = false) ∧ k < 64
    refine ⟨?_, hj, by omega⟩
    cases hb : x.toBitVec.getLsbD k with
    | true => rfl
    | false =>
      refine absurd (w0_bits (fun j h => ?_)) h0
      by_cases q : j < k
      · exact hj j q
      · rw [show j = k by omega]; exact hb
  | succ n ih =>
    intro k hk hj
    unfold lowB
    by_cases hb : x.toBitVec.getLsbD k = true
    · rw [if_pos hb]
      exact ⟨hb, hj, by omega⟩
    · rw [if_neg hb]
      refine ih (k + 1) (by omega) (fun j h => ?_)
      by_cases q : j < k
      · exact hj j q
      · rw [show j = k by omega]; exact Bool.eq_false_iff.mpr hb
theorem lowW_spec {w : Nat → Int64} {r : Nat} : ∀ n i : Nat, i + n = 16 → (∀ y, y < i * 64 → pBit w r y = false) → (∃ y, y < 1024 ∧ pBit w r y = true) → pBit w r (lowW w r n i) = true ∧ ∀ y, y < lowW w r n i → pBit w r y = false := by
  intro n
  induction n with
  | zero =>
    intro i hi h1 h2
    obtain ⟨y, hy, hb⟩ := h2
    rw [h1 y (by omega)] at hb
    exact absurd hb (by decide)
  | succ n ih =>
    intro i hi h1 h2
    unfold lowW
    by_cases hz : w (r * 16 + i) = 0
    · rw [if_pos hz]
      refine ih (i + 1) (by omega) (fun y hy => ?_) h2
      by_cases q : y < i * 64
      · exact h1 y q
      · unfold pBit
        rw [show y / 64 = i by omega, hz]
        show (0#64).getLsbD _ = false
        simp
    · rw [if_neg hz]
      obtain ⟨q1, q2, q3⟩ := lowB_spec hz 63 0 rfl (fun j h => absurd h (Nat.not_lt_zero j))
      generalize lowB (w (r * 16 + i)) 63 0 = k at q1 q2 q3
      refine ⟨?_, fun y hy => ?_⟩
      · unfold pBit
        rw [show (i * 64 + k) / 64 = i by omega, show (i * 64 + k) % 64 = k by omega]
        exact q1
      · by_cases q : y < i * 64
        · exact h1 y q
        · unfold pBit
          rw [show y / 64 = i by omega]
          exact q2 _ (by omega)
theorem pLow_spec {w : Nat → Int64} {r : Nat} (h : ∃ y, y < 1024 ∧ pBit w r y = true) : pBit w r (pLow w r) = true ∧ ∀ y, y < pLow w r → pBit w r y = false := lowW_spec 16 0 rfl (fun y hy => absurd hy (by omega)) h
theorem vbits_lt (w : Nat → Int64) (row x : Nat) : ∀ k, vbits w row x k < 2 ^ k := by
  intro k
  induction k with
  | zero => show (0 : Nat) < 2 ^ 0; decide
  | succ k ih =>
    unfold vbits
    have e : 2 ^ (k + 1) = 2 ^ k + 2 ^ k := by rw [Nat.pow_succ]; omega
    split
    · exact Nat.or_lt_two_pow (by omega) (by omega)
    · omega
theorem or_pow {a k : Nat} (h : a < 2 ^ k) : a ||| 2 ^ k = a + 2 ^ k := by
  have h2 := Nat.two_pow_add_eq_or_of_lt h 1
  rw [Nat.mul_one] at h2
  rw [Nat.or_comm, ← h2, Nat.add_comm]
theorem vbits_s (w : Nat → Int64) (row x k : Nat) : vbits w row x (k + 1) = vbits w row x k + (if pBit w (row + k) x = true then 2 ^ k else 0) := by
  show (if pBit w (row + k) x = true then vbits w row x k ||| 2 ^ k else vbits w row x k) = _
  split
  · rw [or_pow (vbits_lt w row x k)]
  · rfl
theorem vbits_congr {w w' : Nat → Int64} {row row' x : Nat} : ∀ k, (∀ j, j < k → pBit w (row + j) x = pBit w' (row' + j) x) → vbits w row x k = vbits w' row' x k := by
  intro k
  induction k with
  | zero => intro _; rfl
  | succ k ih =>
    intro h
    rw [vbits_s, vbits_s, ih (fun j hj => h j (by omega)), h k (by omega)]
theorem vbits_bit (w : Nat → Int64) (row x : Nat) : ∀ n k, k < n → (vbits w row x n / 2 ^ k % 2 = 1 ↔ pBit w (row + k) x = true) := by
  intro n
  induction n with
  | zero => intro k hk; exact absurd hk (Nat.not_lt_zero k)
  | succ n ih =>
    intro k hk
    rw [vbits_s]
    have hl := vbits_lt w row x n
    by_cases h : k = n
    · subst h
      by_cases hb : pBit w (row + k) x = true
      · rw [if_pos hb, Nat.add_div_right _ (Nat.two_pow_pos k), Nat.div_eq_of_lt hl]
        exact ⟨fun _ => hb, fun _ => rfl⟩
      · rw [if_neg hb, Nat.add_zero, Nat.div_eq_of_lt hl]
        exact ⟨fun q => absurd q (by decide), fun q => absurd q hb⟩
    · rw [← ih k (by omega)]
      by_cases hb : pBit w (row + n) x = true
      · rw [if_pos hb, show 2 ^ n = 2 ^ k * (2 * 2 ^ (n - k - 1)) by rw [← Nat.pow_succ', ← Nat.pow_add]; congr 1; omega, Nat.add_mul_div_left _ _ (Nat.two_pow_pos k)]
        omega
      · rw [if_neg hb, Nat.add_zero]
/-! one bit of an adder -/
def bN (b : Bool) : Nat := if b = true then 1 else 0
theorem add_bit (a b c : Bool) : bN ((a ^^ b) ^^ c) + 2 * bN ((c && (a ^^ b)) || (a && b)) = bN a + bN b + bN c := by
  cases a <;> cases b <;> cases c <;> rfl
theorem cAdd_to {to a b : Nat} (w : Nat → Int64) {x : Nat} (hx : x < 1024) (h1 : to < 256) (ha : a < 257) (hb : b < 257) : pBit (cAdd to a b w) to x = ((pBit w a x ^^ pBit w b x) ^^ pBit w 257 x) := by
  unfold cAdd
  rw [pb_or1 _ _ _ _ hx, if_neg (by omega), pb_and1 _ _ _ _ hx, if_neg (by omega), pb_xor1 _ _ _ _ hx, if_pos rfl, pb_and1 _ _ _ _ hx, if_neg (by omega), pb_and1 _ _ _ _ hx, if_neg (by omega), pb_xor1 _ _ _ _ hx, if_pos rfl, pb_xor1 _ _ _ _ hx, if_neg (by omega)]
theorem cAdd_carry {to a b : Nat} (w : Nat → Int64) {x : Nat} (hx : x < 1024) (h1 : to < 256) (ha : a < 257) (hb : b < 257) : pBit (cAdd to a b w) 257 x = ((pBit w 257 x && (pBit w a x ^^ pBit w b x)) || (pBit w a x && pBit w b x)) := by
  unfold cAdd
  rw [pb_or1 _ _ _ _ hx, if_pos rfl, pb_and1 _ _ _ _ hx, if_pos rfl, pb_and1 _ _ _ _ hx, if_neg (by omega), pb_xor1 _ _ _ _ hx, if_neg (by omega), pb_and1 _ _ _ _ hx, if_neg (by omega), pb_xor1 _ _ _ _ hx, if_neg (by omega), pb_xor1 _ _ _ _ hx, if_neg (by omega), pb_and1 _ _ _ _ hx, if_neg (by omega), pb_xor1 _ _ _ _ hx, if_pos rfl, pb_xor1 _ _ _ _ hx, if_neg (by omega), pb_and1 _ _ _ _ hx, if_pos rfl, pb_xor1 _ _ _ _ hx, if_neg (by omega), pb_xor1 _ _ _ _ hx, if_neg (by omega)]
theorem cAdd_else {to a b : Nat} (w : Nat → Int64) {r x : Nat} (hx : x < 1024) (h1 : r ≠ to) (h2 : r ≠ 257) (h3 : r ≠ 258) (h4 : r ≠ 259) : pBit (cAdd to a b w) r x = pBit w r x := by
  unfold cAdd
  rw [pb_or1 _ _ _ _ hx, if_neg h2, pb_and1 _ _ _ _ hx, if_neg h2, pb_xor1 _ _ _ _ hx, if_neg h1, pb_and1 _ _ _ _ hx, if_neg h4, pb_xor1 _ _ _ _ hx, if_neg h3]
theorem cSumN_inv {to a b : Nat} (w : Nat → Int64) {x : Nat} (hx : x < 1024) (hc : pBit w 257 x = false) : ∀ k, to + k ≤ 250 → (a + k ≤ to ∨ to + k ≤ a) → a + k ≤ 250 → (b + k ≤ to ∨ to + k ≤ b) → b + k ≤ 250 →
    vbits (cSumN to a b k w) to x k + 2 ^ k * bN (pBit (cSumN to a b k w) 257 x) = vbits w a x k + vbits w b x k ∧ ∀ r, (r < to ∨ to + k ≤ r) → r ≠ 257 → r ≠ 258 → r ≠ 259 → pBit (cSumN to a b k w) r x = pBit w r x := by
  intro k
  induction k with
  | zero =>
    intro _ _ _ _ _
    refine ⟨?_, fun r _ _ _ _ => rfl⟩
    show 0 + 2 ^ 0 * bN (pBit w 257 x) = 0 + 0
    rw [hc]
    rfl
  | succ k ih =>
    intro h1 h2 h3 h4 h5
    obtain ⟨i1, i2⟩ := ih (by omega) (by omega) (by omega) (by omega) (by omega)
    refine ⟨?_, fun r q1 q2 q3 q4 => ?_⟩
    · show vbits (cAdd (to + k) (a + k) (b + k) (cSumN to a b k w)) to x (k + 1) + 2 ^ (k + 1) * bN (pBit (cAdd (to + k) (a + k) (b + k) (cSumN to a b k w)) 257 x) = _
      rw [vbits_s, vbits_s, vbits_s, cAdd_to _ hx (by omega) (by omega) (by omega), cAdd_carry _ hx (by omega) (by omega) (by omega), vbits_congr (w' := cSumN to a b k w) (row' := to) k (fun j hj => cAdd_else _ hx (by omega) (by omega) (by omega) (by omega)), i2 (a + k) (by omega) (by omega) (by omega) (by omega), i2 (b + k) (by omega) (by omega) (by omega) (by omega)]
      have hb := add_bit (pBit w (a + k) x) (pBit w (b + k) x) (pBit (cSumN to a b k w) 257 x)
      have e : 2 ^ (k + 1) = 2 * 2 ^ k := by rw [Nat.pow_succ]; omega
      rw [e]
      generalize vbits (cSumN to a b k w) to x k = V at i1 ⊢
      generalize vbits w a x k = VA at i1 ⊢
      generalize vbits w b x k = VB at i1 ⊢
      generalize pBit (cSumN to a b k w) 257 x = C at i1 hb ⊢
      generalize pBit w (a + k) x = BA at hb ⊢
      generalize pBit w (b + k) x = BB at hb ⊢
      generalize 2 ^ k = P at i1 ⊢
      cases BA <;> cases BB <;> cases C <;> simp [bN] at i1 ⊢ <;> omega
    · show pBit (cAdd (to + k) (a + k) (b + k) (cSumN to a b k w)) r x = _
      rw [cAdd_else _ hx (by omega) q2 q3 q4]
      exact i2 r (by omega) q2 q3 q4
