/-! the rows of the sets, bit by bit -/
theorem pb_rset (g : Nat → Int64) (to rows : Nat) (w : Nat → Int64) {r x : Nat} (hx : x < 1024) : pBit (rset g to (rows * 16) w) r x = if to ≤ r ∧ r < to + rows then (g ((r - to) * 16 + x / 64)).toBitVec.getLsbD (x % 64) else pBit w r x := by
  unfold pBit rset
  by_cases h : to ≤ r ∧ r < to + rows
  · rw [if_pos h, if_pos (by omega), show r * 16 + x / 64 - to * 16 = (r - to) * 16 + x / 64 by omega]
  · rw [if_neg h, if_neg (by omega)]
theorem pb_rset1 (g : Nat → Int64) (to : Nat) (w : Nat → Int64) {r x : Nat} (hx : x < 1024) : pBit (rset g to 16 w) r x = if r = to then (g (x / 64)).toBitVec.getLsbD (x % 64) else pBit w r x := by
  have h := pb_rset g to 1 w (r := r) hx
  rw [show 1 * 16 = 16 from rfl] at h
  rw [h]
  by_cases hr : r = to
  · subst hr
    rw [if_pos (by omega), if_pos rfl, show (r - r) * 16 + x / 64 = x / 64 by omega]
  · rw [if_neg (by omega), if_neg hr]
theorem bL_bit (al : Bool) {k : Nat} (hk : k < 64) : (bL al).toBitVec.getLsbD k = al := by
  cases al with
  | false => show (0#64).getLsbD k = false; simp
  | true => show (BitVec.allOnes 64).getLsbD k = true; rw [BitVec.getLsbD_allOnes]; exact decide_eq_true hk
theorem m1_bit (x : Int64) {k : Nat} (hk : k < 64) : (x ^^^ (-1)).toBitVec.getLsbD k = !x.toBitVec.getLsbD k := by
  rw [Int64.toBitVec_xor, BitVec.getLsbD_xor]
  have h : (-1 : Int64).toBitVec.getLsbD k = true := by show (BitVec.allOnes 64).getLsbD k = true; rw [BitVec.getLsbD_allOnes]; exact decide_eq_true hk
  rw [h]
  cases x.toBitVec.getLsbD k <;> rfl
theorem pb_fill (al : Bool) (to rows : Nat) (w : Nat → Int64) {r x : Nat} (hx : x < 1024) : pBit (oFill al to rows w) r x = if to ≤ r ∧ r < to + rows then al else pBit w r x := by
  unfold oFill
  rw [pb_rset _ _ _ _ hx, bL_bit al (by omega)]
theorem pb_copy (to a rows : Nat) (w : Nat → Int64) {r x : Nat} (hx : x < 1024) : pBit (oCopy to a rows w) r x = if to ≤ r ∧ r < to + rows then pBit w (a + (r - to)) x else pBit w r x := by
  unfold oCopy
  rw [pb_rset _ _ _ _ hx]
  by_cases h : to ≤ r ∧ r < to + rows
  · rw [if_pos h, if_pos h]
    unfold pBit
    rw [show a * 16 + ((r - to) * 16 + x / 64) = (a + (r - to)) * 16 + x / 64 by omega]
  · rw [if_neg h, if_neg h]
theorem pb_turn (to a rows : Nat) (w : Nat → Int64) {r x : Nat} (hx : x < 1024) : pBit (oTurn to a rows w) r x = if to ≤ r ∧ r < to + rows then !pBit w (a + (r - to)) x else pBit w r x := by
  unfold oTurn
  rw [pb_rset _ _ _ _ hx]
  by_cases h : to ≤ r ∧ r < to + rows
  · rw [if_pos h, if_pos h, m1_bit _ (by omega)]
    unfold pBit
    rw [show a * 16 + ((r - to) * 16 + x / 64) = (a + (r - to)) * 16 + x / 64 by omega]
  · rw [if_neg h, if_neg h]
theorem pb_and (to a b rows : Nat) (w : Nat → Int64) {r x : Nat} (hx : x < 1024) : pBit (oAnd to a b rows w) r x = if to ≤ r ∧ r < to + rows then (pBit w (a + (r - to)) x && pBit w (b + (r - to)) x) else pBit w r x := by
  unfold oAnd
  rw [pb_rset _ _ _ _ hx]
  by_cases h : to ≤ r ∧ r < to + rows
  · rw [if_pos h, if_pos h, Int64.toBitVec_and, BitVec.getLsbD_and]
    unfold pBit
    rw [show a * 16 + ((r - to) * 16 + x / 64) = (a + (r - to)) * 16 + x / 64 by omega, show b * 16 + ((r - to) * 16 + x / 64) = (b + (r - to)) * 16 + x / 64 by omega]
  · rw [if_neg h, if_neg h]
theorem pb_or (to a b rows : Nat) (w : Nat → Int64) {r x : Nat} (hx : x < 1024) : pBit (oOr to a b rows w) r x = if to ≤ r ∧ r < to + rows then (pBit w (a + (r - to)) x || pBit w (b + (r - to)) x) else pBit w r x := by
  unfold oOr
  rw [pb_rset _ _ _ _ hx]
  by_cases h : to ≤ r ∧ r < to + rows
  · rw [if_pos h, if_pos h, Int64.toBitVec_or, BitVec.getLsbD_or]
    unfold pBit
    rw [show a * 16 + ((r - to) * 16 + x / 64) = (a + (r - to)) * 16 + x / 64 by omega, show b * 16 + ((r - to) * 16 + x / 64) = (b + (r - to)) * 16 + x / 64 by omega]
  · rw [if_neg h, if_neg h]
theorem pb_xor (to a b rows : Nat) (w : Nat → Int64) {r x : Nat} (hx : x < 1024) : pBit (oXor to a b rows w) r x = if to ≤ r ∧ r < to + rows then (pBit w (a + (r - to)) x ^^ pBit w (b + (r - to)) x) else pBit w r x := by
  unfold oXor
  rw [pb_rset _ _ _ _ hx]
  by_cases h : to ≤ r ∧ r < to + rows
  · rw [if_pos h, if_pos h, Int64.toBitVec_xor, BitVec.getLsbD_xor]
    unfold pBit
    rw [show a * 16 + ((r - to) * 16 + x / 64) = (a + (r - to)) * 16 + x / 64 by omega, show b * 16 + ((r - to) * 16 + x / 64) = (b + (r - to)) * 16 + x / 64 by omega]
  · rw [if_neg h, if_neg h]
theorem pb_choose (to cd ye no : Nat) (w : Nat → Int64) {r x : Nat} (hx : x < 1024) : pBit (oChoose to cd ye no w) r x = if r = to then (if pBit w cd x = true then pBit w ye x else pBit w no x) else pBit w r x := by
  unfold oChoose
  rw [pb_rset1 _ _ _ hx]
  by_cases h : r = to
  · rw [if_pos h, if_pos h, Int64.toBitVec_or, BitVec.getLsbD_or, Int64.toBitVec_and, Int64.toBitVec_and, BitVec.getLsbD_and, BitVec.getLsbD_and, m1_bit _ (by omega)]
    unfold pBit
    cases (w (cd * 16 + x / 64)).toBitVec.getLsbD (x % 64) <;> simp
  · rw [if_neg h, if_neg h]
theorem pb_remove (to a : Nat) (w : Nat → Int64) {r x : Nat} (hx : x < 1024) : pBit (oRemove to a w) r x = if r = to then (pBit w to x && !pBit w a x) else pBit w r x := by
  unfold oRemove
  rw [pb_rset1 _ _ _ hx]
  by_cases h : r = to
  · rw [if_pos h, if_pos h, Int64.toBitVec_and, BitVec.getLsbD_and, m1_bit _ (by omega)]
    rfl
  · rw [if_neg h, if_neg h]
theorem wbp_bit : ∀ pl, pl < 10 → ∀ x, x < 1024 → (wbp (x / 64) pl).toBitVec.getLsbD (x % 64) = decide (x / 2 ^ pl % 2 = 1) := by decide +kernel
theorem pb_place (to pl : Nat) (w : Nat → Int64) {r x : Nat} (hx : x < 1024) (hp : pl < 10) : pBit (oPlace to pl w) r x = if r = to then decide (x / 2 ^ pl % 2 = 1) else pBit w r x := by
  unfold oPlace
  rw [pb_rset1 _ _ _ hx, wbp_bit pl hp x hx]
theorem pb_and1 (to a b : Nat) (w : Nat → Int64) {r x : Nat} (hx : x < 1024) : pBit (oAnd to a b 1 w) r x = if r = to then (pBit w a x && pBit w b x) else pBit w r x := by
  rw [pb_and _ _ _ _ _ hx]
  by_cases h : r = to
  · subst h
    rw [if_pos (by omega), if_pos rfl, Nat.sub_self, Nat.add_zero, Nat.add_zero]
  · rw [if_neg (by omega), if_neg h]
theorem pb_or1 (to a b : Nat) (w : Nat → Int64) {r x : Nat} (hx : x < 1024) : pBit (oOr to a b 1 w) r x = if r = to then (pBit w a x || pBit w b x) else pBit w r x := by
  rw [pb_or _ _ _ _ _ hx]
  by_cases h : r = to
  · subst h
    rw [if_pos (by omega), if_pos rfl, Nat.sub_self, Nat.add_zero, Nat.add_zero]
  · rw [if_neg (by omega), if_neg h]
theorem pb_xor1 (to a b : Nat) (w : Nat → Int64) {r x : Nat} (hx : x < 1024) : pBit (oXor to a b 1 w) r x = if r = to then (pBit w a x ^^ pBit w b x) else pBit w r x := by
  rw [pb_xor _ _ _ _ _ hx]
  by_cases h : r = to
  · subst h
    rw [if_pos (by omega), if_pos rfl, Nat.sub_self, Nat.add_zero, Nat.add_zero]
  · rw [if_neg (by omega), if_neg h]
theorem pb_turn1 (to a : Nat) (w : Nat → Int64) {r x : Nat} (hx : x < 1024) : pBit (oTurn to a 1 w) r x = if r = to then !pBit w a x else pBit w r x := by
  rw [pb_turn _ _ _ _ hx]
  by_cases h : r = to
  · subst h
    rw [if_pos (by omega), if_pos rfl, Nat.sub_self, Nat.add_zero]
  · rw [if_neg (by omega), if_neg h]
theorem pb_copy1 (to a : Nat) (w : Nat → Int64) {r x : Nat} (hx : x < 1024) : pBit (oCopy to a 1 w) r x = if r = to then pBit w a x else pBit w r x := by
  rw [pb_copy _ _ _ _ hx]
  by_cases h : r = to
  · subst h
    rw [if_pos (by omega), if_pos rfl, Nat.sub_self, Nat.add_zero]
  · rw [if_neg (by omega), if_neg h]
theorem pb_fill1 (al : Bool) (to : Nat) (w : Nat → Int64) {r x : Nat} (hx : x < 1024) : pBit (oFill al to 1 w) r x = if r = to then al else pBit w r x := by
  rw [pb_fill _ _ _ _ hx]
  by_cases h : r = to
  · rw [if_pos (by omega), if_pos h]
  · rw [if_neg (by omega), if_neg h]
/-! the sets as a whole -/
theorem w0_bits {z : Int64} (h : ∀ k, k < 64 → z.toBitVec.getLsbD k = false) : z = 0 := by
  apply Int64.toBitVec_inj.mp
  apply BitVec.eq_of_getLsbD_eq
  intro k hk
  rw [h k hk]
  show false = (0#64).getLsbD k
  simp
theorem pNone_iff (w : Nat → Int64) (a b : Nat) : pNone w a b = true ↔ ∀ x, x < 1024 → ¬ (pBit w a x = true ∧ pBit w b x = true) := by
  constructor
  · intro h x hx q
    have h1 := pNone_all.mp h (x / 64) (by omega)
    have h2 : ((w (a * 16 + x / 64)) &&& (w (b * 16 + x / 64))).toBitVec.getLsbD (x % 64) = false := by rw [h1]; show (0#64).getLsbD _ = false; simp
    rw [Int64.toBitVec_and, BitVec.getLsbD_and] at h2
    have q1 : (w (a * 16 + x / 64)).toBitVec.getLsbD (x % 64) = true := q.1
    have q2 : (w (b * 16 + x / 64)).toBitVec.getLsbD (x % 64) = true := q.2
    rw [q1, q2] at h2
    exact absurd h2 (by decide)
  · intro h
    refine pNone_all.mpr (fun i hi => w0_bits (fun k hk => ?_))
    have h1 := h (i * 64 + k) (by omega)
    unfold pBit at h1
    rw [show (i * 64 + k) / 64 = i by omega, show (i * 64 + k) % 64 = k by omega] at h1
    rw [Int64.toBitVec_and, BitVec.getLsbD_and]
    cases h2 : (w (a * 16 + i)).toBitVec.getLsbD k with
    | false => rfl
    | true =>
      cases h3 : (w (b * 16 + i)).toBitVec.getLsbD k with
      | false => rfl
      | true => exact absurd ⟨h2, h3⟩ h1
theorem pWithin_iff (w : Nat → Int64) (a b : Nat) : pWithin w a b = true ↔ ∀ x, x < 1024 → pBit w a x = true → pBit w b x = true := by
  constructor
  · intro h x hx q
    have h1 := pWithin_all.mp h (x / 64) (by omega)
    have h2 : ((w (a * 16 + x / 64)) &&& ((w (b * 16 + x / 64)) ^^^ (-1))).toBitVec.getLsbD (x % 64) = false := by rw [h1]; show (0#64).getLsbD _ = false; simp
    rw [Int64.toBitVec_and, BitVec.getLsbD_and, m1_bit _ (by omega)] at h2
    have q1 : (w (a * 16 + x / 64)).toBitVec.getLsbD (x % 64) = true := q
    rw [q1] at h2
    show (w (b * 16 + x / 64)).toBitVec.getLsbD (x % 64) = true
    cases h3 : (w (b * 16 + x / 64)).toBitVec.getLsbD (x % 64) with
    | true => rfl
    | false => rw [h3] at h2; exact absurd h2 (by decide)
  · intro h
    refine pWithin_all.mpr (fun i hi => w0_bits (fun k hk => ?_))
    have h1 := h (i * 64 + k) (by omega)
    unfold pBit at h1
    rw [show (i * 64 + k) / 64 = i by omega, show (i * 64 + k) % 64 = k by omega] at h1
    rw [Int64.toBitVec_and, BitVec.getLsbD_and, m1_bit _ hk]
    cases h2 : (w (a * 16 + i)).toBitVec.getLsbD k with
    | false => rfl
    | true => rw [h1 h2]; rfl
