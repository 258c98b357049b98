/-! a term's and a formula's row: the reference's number of the rows that it is made of -/
theorem tn_nI {n : Nat} (h : n < 2 ^ 32) : (nI n).toBitVec.toNat = n := pk_tn h
def bT (a j : Nat) : Bool := decide (a / 2 ^ j % 2 = 1)
theorem fin_sub : ∀ wd, wd < 5 → ∀ a, a < 16 → ∀ b, b < 16 → b < 2 ^ wd → (nI a - nI b).toBitVec.toNat % 2 ^ wd = (a + 2 ^ wd - b) % 2 ^ wd := by decide +kernel
theorem fin_and : ∀ a, a < 16 → ∀ b, b < 16 → ∀ j, j < 4 → bT (a &&& b) j = (bT a j && bT b j) := by decide +kernel
theorem fin_or : ∀ a, a < 16 → ∀ b, b < 16 → ∀ j, j < 4 → bT (a ||| b) j = (bT a j || bT b j) := by decide +kernel
theorem fin_xor : ∀ a, a < 16 → ∀ b, b < 16 → ∀ j, j < 4 → bT ((nI a ^^^ nI b).toBitVec.toNat) j = (bT a j ^^ bT b j) := by decide +kernel
theorem fin_not : ∀ a, a < 16 → ∀ j, j < 4 → bT (((-1) - nI a).toBitVec.toNat) j = !bT a j := by decide +kernel
theorem fin_shl : ∀ a, a < 16 → ∀ b, b < 5 → ∀ j, j < 4 → bT ((nI a <<< (nI b &&& 31)).toBitVec.toNat) j = if j < b then false else bT a (j - b) := by decide +kernel
theorem fin_shr : ∀ a, a < 16 → ∀ b, b < 5 → ∀ j, j < 4 → bT (a / 2 ^ b) j = bT a (j + b) := by decide +kernel
theorem fin_sar0 : ∀ v, v < 4 → ∀ a, a < 16 → a < 2 ^ (v + 1) → ∀ b, b < 5 → ∀ j, j < v + 1 → bT ((sgI a (v + 1) >>> (nI b &&& 31)).toBitVec.toNat) j = if j + b < v + 1 then bT a (j + b) else bT a v := by decide +kernel
theorem fin_sar (wd : Nat) (h : wd < 5) (h1 : 1 ≤ wd) (a : Nat) (ha : a < 16) (hw : a < 2 ^ wd) (b : Nat) (hb : b < 5) (j : Nat) (_ : j < 4) (hj : j < wd) : bT ((sgI a wd >>> (nI b &&& 31)).toBitVec.toNat) j = if j + b < wd then bT a (j + b) else bT a (wd - 1) := by
  obtain ⟨v, rfl⟩ : ∃ v, wd = v + 1 := ⟨wd - 1, by omega⟩
  exact fin_sar0 v (by omega) a ha hw b hb j hj
theorem fin_join : ∀ wa, wa < 5 → ∀ a, a < 16 → ∀ b, b < 16 → (nI a + (nI b <<< (nI wa &&& 31))).toBitVec.toNat = a + 2 ^ wa * b := by decide +kernel
theorem fin_hi : ∀ wd, wd < 5 → ∀ a, a < 16 → a < 2 ^ wd → ∀ j, j < 9 → wd ≤ j → bT a j = false := by decide +kernel
theorem fin_lt : ∀ wd, wd < 5 → ∀ a, a < 16 → ∀ b, b < 16 → a < 2 ^ wd → b < 2 ^ wd → lessF (bT a) (bT b) wd false wd = decide (a < b) := by decide +kernel
theorem fin_slt0 : ∀ v, v < 4 → ∀ a, a < 16 → ∀ b, b < 16 → a < 2 ^ (v + 1) → b < 2 ^ (v + 1) → lessF (bT a) (bT b) (v + 1) true (v + 1) = decide ((sgI a (v + 1)).toInt < (sgI b (v + 1)).toInt) := by decide +kernel
theorem fin_slt (wd : Nat) (h : wd < 5) (h1 : 1 ≤ wd) (a : Nat) (ha : a < 16) (b : Nat) (hb : b < 16) (hwa : a < 2 ^ wd) (hwb : b < 2 ^ wd) : lessF (bT a) (bT b) wd true wd = decide ((sgI a wd).toInt < (sgI b wd).toInt) := by
  obtain ⟨v, rfl⟩ : ∃ v, wd = v + 1 := ⟨wd - 1, by omega⟩
  exact fin_slt0 v (by omega) a ha b hb hwa hwb
theorem bT_mod (N : Nat) {wd j : Nat} (h : j < wd) : bT (N % 2 ^ wd) j = bT N j := by
  have a1 := Nat.testBit_eq_decide_div_mod_eq (x := N % 2 ^ wd) (i := j)
  have a2 := Nat.testBit_eq_decide_div_mod_eq (x := N) (i := j)
  rw [Nat.testBit_mod_two_pow, decide_eq_true h, Bool.true_and, a2] at a1
  exact a1.symm
/-- rows whose bits are those of N: the number N mod 2^wd -/
theorem vb_of (w : Nat → Int64) (row x wd N : Nat) (h : ∀ j, j < wd → pBit w (row + j) x = bT N j) : vbits w row x wd = N % 2 ^ wd :=
  vbits_num w row x wd _ (Nat.mod_lt _ (Nat.two_pow_pos wd)) (fun j hj => by rw [h j hj]; exact (bT_mod N hj).symm)
theorem vb_pb (w : Nat → Int64) (row x : Nat) {n k : Nat} (h : k < n) : pBit w (row + k) x = bT (vbits w row x n) k := vbits_pb w row x h
theorem vb_16 (w : Nat → Int64) (row x : Nat) {wd : Nat} (h : wd ≤ 4) : vbits w row x wd < 16 := Nat.lt_of_lt_of_le (vbits_lt w row x wd) (show 2 ^ wd ≤ 2 ^ 4 from Nat.pow_le_pow_right (by decide) h)
abbrev VX (tw : Nat → Nat) (w : Nat → Int64) (x : Nat) : Nat → Nat := fun t => vbits w (50 + t * 4) x (tw t)
abbrev HX (w : Nat → Int64) (x : Nat) : Nat → Bool := fun f => pBit w f x
abbrev gX (vw vp : Nat → Nat) (x : Nat) : Nat → Nat := fun v => x / 2 ^ vp v % 2 ^ vw v
theorem tRes_val {nv nt nf k a wd x : Nat} {vw vp tw : Nat → Nat} {b c : Int32} {w : Nat → Int64} (hx : x < 1024) (hnt : nt < 50) (hnf : nf ≤ 50) (hv : ∀ j, j < nv → 1 ≤ vw j ∧ vw j ≤ 4 ∧ vp j + vw j ≤ 10) (ht : ∀ j, j < nt → 1 ≤ tw j ∧ tw j ≤ 4) (h1 : 1 ≤ wd) (h4 : wd ≤ 4) (hd : dT nv nt nf vw tw k a b c wd) :
    vbits (tRes k a (nB b) (nB c) wd nt vw vp tw w) (50 + nt * 4) x wd = (rawI k a (nB b) (nB c) (gX vw vp x) (VX tw w x) (HX w x) tw).toBitVec.toNat % 2 ^ wd ∧ ∀ r, (r < 50 + nt * 4 ∨ 50 + nt * 4 + 4 ≤ r) → r < 256 → pBit (tRes k a (nB b) (nB c) wd nt vw vp tw w) r x = pBit w r x := by
  rcases hd with ⟨rfl, rfl, ha⟩ | ⟨rfl, ha, rfl⟩ | ⟨hk2, hk7, ha, ea, j, hj, rfl, ej⟩ | ⟨rfl, ha, ea⟩ | ⟨hk2, hk7, ha, ea, j, hj, rfl⟩ | ⟨rfl, ha, i, j, hi, hj, rfl, rfl, ei, ej⟩ | ⟨rfl, ha, j, hj, rfl, es⟩ | ⟨rfl, ha, j, q, rfl, rfl, hjq, hq, es⟩
  · have o2 : 2 ^ wd ≤ 2 ^ 4 := Nat.pow_le_pow_right (by decide) h4
    obtain ⟨i1, i2⟩ := oNum_inv (to := 50 + nt * 4) (num := a) w hx wd
    refine ⟨?_, fun r hr _ => i2 r (by omega)⟩
    show vbits (oNum (50 + nt * 4) a wd w) (50 + nt * 4) x wd = (nI a).toBitVec.toNat % 2 ^ wd
    rw [tn_nI (by omega)]
    exact vb_of _ _ _ _ _ i1
  · have o2 := hv a ha
    obtain ⟨i1, i2⟩ := oVar_inv (to := 50 + nt * 4) (pl := vp a) w hx (vw a) (by omega)
    refine ⟨?_, fun r hr _ => i2 r (by omega)⟩
    show vbits (oVar (50 + nt * 4) (vp a) (vw a) w) (50 + nt * 4) x (vw a) = (nI (x / 2 ^ vp a % 2 ^ vw a)).toBitVec.toNat % 2 ^ vw a
    have hl : x / 2 ^ vp a % 2 ^ vw a < 2 ^ vw a := Nat.mod_lt _ (Nat.two_pow_pos _)
    have o3 : 2 ^ vw a ≤ 2 ^ 4 := Nat.pow_le_pow_right (by decide) h4
    rw [tn_nI (by omega), Nat.mod_mod]
    refine vb_of _ _ _ _ _ (fun j hj => ?_)
    rw [i1 j hj]
    unfold bT
    rw [Nat.div_div_eq_div_mul, Nat.pow_add]
  · have va := vb_16 w (50 + a * 4) x h4
    have vb := vb_16 w (50 + j * 4) x h4
    have vlb := vbits_lt w (50 + j * 4) x wd
    have oj := ht j hj
    rw [nB_I (by omega)]
    rcases (show k = 2 ∨ k = 3 ∨ k = 4 ∨ k = 5 ∨ k = 6 ∨ k = 7 by omega) with rfl | rfl | rfl | rfl | rfl | rfl
    · refine ⟨?_, fun r hr h6 => cSum_else w hx (by omega) (by omega) (by omega) (by omega) (by omega) (by omega) h6⟩
      show vbits (cSum (50 + nt * 4) (50 + a * 4) (50 + j * 4) wd w) (50 + nt * 4) x wd = (nI (vbits w (50 + a * 4) x (tw a) + vbits w (50 + j * 4) x (tw j))).toBitVec.toNat % 2 ^ wd
      rw [cSum_val w hx (by omega) (by omega) (by omega) (by omega) (by omega), ea, ej, tn_nI (by omega)]
    · refine ⟨?_, fun r hr h6 => cDiff_else w hx (by omega) (by omega) (by omega) (by omega) (by omega) (by omega) h6⟩
      show vbits (cDiff (50 + nt * 4) (50 + a * 4) (50 + j * 4) wd w) (50 + nt * 4) x wd = (nI (vbits w (50 + a * 4) x (tw a)) - nI (vbits w (50 + j * 4) x (tw j))).toBitVec.toNat % 2 ^ wd
      rw [cDiff_val w hx (by omega) (by omega) (by omega) (by omega) (by omega), ea, ej, fin_sub wd (by omega) _ va _ vb vlb]
    · obtain ⟨i1, i2⟩ := cProd_val (to := 50 + nt * 4) (a := 50 + a * 4) (b := 50 + j * 4) (wd := wd) w hx (by omega) (by omega) (by omega) (by omega) (by omega)
      refine ⟨?_, fun r hr h6 => i2 r (by omega) h6⟩
      show vbits (cProd (50 + nt * 4) (50 + a * 4) (50 + j * 4) wd w) (50 + nt * 4) x wd = (nI (vbits w (50 + a * 4) x (tw a) * vbits w (50 + j * 4) x (tw j))).toBitVec.toNat % 2 ^ wd
      have hm : vbits w (50 + a * 4) x wd * vbits w (50 + j * 4) x wd ≤ 15 * 15 := Nat.mul_le_mul (by omega) (by omega)
      rw [i1, ea, ej, tn_nI (by omega)]
    · refine ⟨?_, fun r hr h6 => by show pBit (oAnd _ _ _ wd w) r x = _; rw [pb_and _ _ _ _ _ hx, if_neg (by omega)]⟩
      show vbits (oAnd (50 + nt * 4) (50 + a * 4) (50 + j * 4) wd w) (50 + nt * 4) x wd = (nI (vbits w (50 + a * 4) x (tw a) &&& vbits w (50 + j * 4) x (tw j))).toBitVec.toNat % 2 ^ wd
      rw [ea, ej, tn_nI (by have := Nat.and_le_left (n := vbits w (50 + a * 4) x wd) (m := vbits w (50 + j * 4) x wd); omega)]
      refine vb_of _ _ _ _ _ (fun z hz => ?_)
      rw [pb_and _ _ _ _ _ hx, if_pos ⟨by omega, by omega⟩, show 50 + nt * 4 + z - (50 + nt * 4) = z by omega, vb_pb w (50 + a * 4) x hz, vb_pb w (50 + j * 4) x hz, fin_and _ va _ vb z (by omega)]
    · refine ⟨?_, fun r hr h6 => by show pBit (oOr _ _ _ wd w) r x = _; rw [pb_or _ _ _ _ _ hx, if_neg (by omega)]⟩
      show vbits (oOr (50 + nt * 4) (50 + a * 4) (50 + j * 4) wd w) (50 + nt * 4) x wd = (nI (vbits w (50 + a * 4) x (tw a) ||| vbits w (50 + j * 4) x (tw j))).toBitVec.toNat % 2 ^ wd
      have ho : vbits w (50 + a * 4) x wd ||| vbits w (50 + j * 4) x wd < 2 ^ 4 := Nat.or_lt_two_pow va vb
      rw [ea, ej, tn_nI (by omega)]
      refine vb_of _ _ _ _ _ (fun z hz => ?_)
      rw [pb_or _ _ _ _ _ hx, if_pos ⟨by omega, by omega⟩, show 50 + nt * 4 + z - (50 + nt * 4) = z by omega, vb_pb w (50 + a * 4) x hz, vb_pb w (50 + j * 4) x hz, fin_or _ va _ vb z (by omega)]
    · refine ⟨?_, fun r hr h6 => by show pBit (oXor _ _ _ wd w) r x = _; rw [pb_xor _ _ _ _ _ hx, if_neg (by omega)]⟩
      show vbits (oXor (50 + nt * 4) (50 + a * 4) (50 + j * 4) wd w) (50 + nt * 4) x wd = (nI (vbits w (50 + a * 4) x (tw a)) ^^^ nI (vbits w (50 + j * 4) x (tw j))).toBitVec.toNat % 2 ^ wd
      rw [ea, ej]
      refine vb_of _ _ _ _ _ (fun z hz => ?_)
      rw [pb_xor _ _ _ _ _ hx, if_pos ⟨by omega, by omega⟩, show 50 + nt * 4 + z - (50 + nt * 4) = z by omega, vb_pb w (50 + a * 4) x hz, vb_pb w (50 + j * 4) x hz, fin_xor _ va _ vb z (by omega)]
  · have va := vb_16 w (50 + a * 4) x h4
    refine ⟨?_, fun r hr h6 => by show pBit (oTurn _ _ wd w) r x = _; rw [pb_turn _ _ _ _ hx, if_neg (by omega)]⟩
    show vbits (oTurn (50 + nt * 4) (50 + a * 4) wd w) (50 + nt * 4) x wd = ((-1) - nI (vbits w (50 + a * 4) x (tw a))).toBitVec.toNat % 2 ^ wd
    rw [ea]
    refine vb_of _ _ _ _ _ (fun z hz => ?_)
    rw [pb_turn _ _ _ _ hx, if_pos ⟨by omega, by omega⟩, show 50 + nt * 4 + z - (50 + nt * 4) = z by omega, vb_pb w (50 + a * 4) x hz, fin_not _ va z (by omega)]
  · have va := vb_16 w (50 + a * 4) x h4
    have vla := vbits_lt w (50 + a * 4) x wd
    rw [nB_I (by omega)]
    rcases (show k = 9 ∨ k = 10 ∨ k = 11 by omega) with rfl | rfl | rfl
    · obtain ⟨i1, i2⟩ := cUpN_inv (to := 50 + nt * 4) (a := 50 + a * 4) (way := j) w hx wd (by omega) (by omega)
      refine ⟨?_, fun r hr h6 => i2 r (by omega)⟩
      show vbits (cUpN (50 + nt * 4) (50 + a * 4) j wd w) (50 + nt * 4) x wd = (nI (vbits w (50 + a * 4) x (tw a)) <<< (nI j &&& 31)).toBitVec.toNat % 2 ^ wd
      rw [ea]
      refine vb_of _ _ _ _ _ (fun z hz => ?_)
      rw [i1 z hz, fin_shl _ va j (by omega) z (by omega)]
      by_cases q : z < j
      · rw [if_pos q, if_pos q]
      · rw [if_neg q, if_neg q, show 50 + a * 4 + z - j = 50 + a * 4 + (z - j) by omega, vb_pb w (50 + a * 4) x (show z - j < wd by omega)]
    · obtain ⟨i1, i2⟩ := cDownN_inv (to := 50 + nt * 4) (a := 50 + a * 4) (wd := wd) (way := j) (sg := false) w hx wd (Nat.le_refl _) (by omega) (by omega)
      refine ⟨?_, fun r hr h6 => i2 r (by omega)⟩
      show vbits (cDownN (50 + nt * 4) (50 + a * 4) wd j false wd w) (50 + nt * 4) x wd = (nI (vbits w (50 + a * 4) x (tw a) / 2 ^ j)).toBitVec.toNat % 2 ^ wd
      have hdl := Nat.div_le_self (vbits w (50 + a * 4) x wd) (2 ^ j)
      rw [ea, tn_nI (by omega)]
      refine vb_of _ _ _ _ _ (fun z hz => ?_)
      rw [i1 z hz, fin_shr _ va j (by omega) z (by omega)]
      by_cases q : z + j < wd
      · rw [if_pos q, show 50 + a * 4 + z + j = 50 + a * 4 + (z + j) by omega, vb_pb w (50 + a * 4) x q]
      · rw [if_neg q, if_neg (by decide), fin_hi wd (by omega) _ va vla (z + j) (by omega) (by omega)]
    · obtain ⟨i1, i2⟩ := cDownN_inv (to := 50 + nt * 4) (a := 50 + a * 4) (wd := wd) (way := j) (sg := true) w hx wd (Nat.le_refl _) (by omega) (by omega)
      refine ⟨?_, fun r hr h6 => i2 r (by omega)⟩
      show vbits (cDownN (50 + nt * 4) (50 + a * 4) wd j true wd w) (50 + nt * 4) x wd = (sgI (vbits w (50 + a * 4) x (tw a)) (tw a) >>> (nI j &&& 31)).toBitVec.toNat % 2 ^ wd
      rw [ea]
      refine vb_of _ _ _ _ _ (fun z hz => ?_)
      rw [i1 z hz, fin_sar wd (by omega) h1 _ va vla j (by omega) z (by omega) hz]
      by_cases q : z + j < wd
      · rw [if_pos q, if_pos q, show 50 + a * 4 + z + j = 50 + a * 4 + (z + j) by omega, vb_pb w (50 + a * 4) x q]
      · rw [if_neg q, if_neg q, if_pos rfl, show 50 + a * 4 + wd - 1 = 50 + a * 4 + (wd - 1) by omega, vb_pb w (50 + a * 4) x (show wd - 1 < wd by omega)]
  · have vi := vb_16 w (50 + i * 4) x h4
    have vj := vb_16 w (50 + j * 4) x h4
    rw [nB_I (by omega), nB_I (by omega)]
    obtain ⟨i1, i2⟩ := cChoN_inv (to := 50 + nt * 4) (cd := a) (ye := 50 + i * 4) (no := 50 + j * 4) w hx wd (by omega) (by omega) (by omega)
    refine ⟨?_, fun r hr h6 => i2 r (by omega)⟩
    show vbits (cChoN (50 + nt * 4) a (50 + i * 4) (50 + j * 4) wd w) (50 + nt * 4) x wd = (nI (if pBit w a x = true then vbits w (50 + i * 4) x (tw i) else vbits w (50 + j * 4) x (tw j))).toBitVec.toNat % 2 ^ wd
    rw [ei, ej]
    by_cases q : pBit w a x = true
    · rw [if_pos q, tn_nI (by omega)]
      refine vb_of _ _ _ _ _ (fun z hz => ?_)
      rw [i1 z hz, if_pos q, vb_pb w (50 + i * 4) x hz]
    · rw [if_neg q, tn_nI (by omega)]
      refine vb_of _ _ _ _ _ (fun z hz => ?_)
      rw [i1 z hz, if_neg q, vb_pb w (50 + j * 4) x hz]
  · have oa := ht a ha
    have oj := ht j hj
    have va := vb_16 w (50 + a * 4) x oa.2
    have vj := vb_16 w (50 + j * 4) x oj.2
    rw [nB_I (by omega)]
    have hb : ∀ r, pBit (oCopy (50 + nt * 4 + tw a) (50 + j * 4) (tw j) (oCopy (50 + nt * 4) (50 + a * 4) (tw a) w)) r x = if 50 + nt * 4 + tw a ≤ r ∧ r < 50 + nt * 4 + tw a + tw j then pBit w (50 + j * 4 + (r - (50 + nt * 4 + tw a))) x else if 50 + nt * 4 ≤ r ∧ r < 50 + nt * 4 + tw a then pBit w (50 + a * 4 + (r - (50 + nt * 4))) x else pBit w r x := by
      intro r
      rw [pb_copy _ _ _ _ hx, pb_copy _ _ _ _ hx, pb_copy _ _ _ _ hx]
      by_cases q : 50 + nt * 4 + tw a ≤ r ∧ r < 50 + nt * 4 + tw a + tw j
      · rw [if_pos q, if_pos q, if_neg (by omega)]
      · rw [if_neg q, if_neg q]
    refine ⟨?_, fun r hr h6 => by show pBit (oCopy (50 + nt * 4 + tw a) (50 + j * 4) (tw j) (oCopy (50 + nt * 4) (50 + a * 4) (tw a) w)) r x = _; rw [hb, if_neg (by omega), if_neg (by omega)]⟩
    show vbits (oCopy (50 + nt * 4 + tw a) (50 + j * 4) (tw j) (oCopy (50 + nt * 4) (50 + a * 4) (tw a) w)) (50 + nt * 4) x wd = (nI (vbits w (50 + a * 4) x (tw a)) + (nI (vbits w (50 + j * 4) x (tw j)) <<< (nI (tw a) &&& 31))).toBitVec.toNat % 2 ^ wd
    rw [fin_join (tw a) (by omega) _ va _ vj, ← es, vbits_app, vbits_congr (w' := w) (row' := 50 + a * 4) (tw a) (fun z hz => by rw [hb, if_neg (by omega), if_pos (by omega), show 50 + nt * 4 + z - (50 + nt * 4) = z by omega]), vbits_congr (w' := w) (row' := 50 + j * 4) (tw j) (fun z hz => by rw [hb, if_pos (by omega), show 50 + nt * 4 + tw a + z - (50 + nt * 4 + tw a) = z by omega])]
    have l1 := vbits_lt w (50 + a * 4) x (tw a)
    have l2 := vbits_lt w (50 + j * 4) x (tw j)
    refine (Nat.mod_eq_of_lt ?_).symm
    rw [Nat.pow_add]
    have l3 : 2 ^ tw a * vbits w (50 + j * 4) x (tw j) + 2 ^ tw a ≤ 2 ^ tw a * 2 ^ tw j := by
      rw [← Nat.mul_succ]
      exact Nat.mul_le_mul_left _ l2
    omega
  · have oa := ht a ha
    have va := vb_16 w (50 + a * 4) x oa.2
    rw [nB_I (by omega), nB_I (by omega)]
    refine ⟨?_, fun r hr h6 => by show pBit (oCopy (50 + nt * 4) (50 + a * 4 + j) wd w) r x = _; rw [pb_copy _ _ _ _ hx, if_neg (by omega)]⟩
    show vbits (oCopy (50 + nt * 4) (50 + a * 4 + j) wd w) (50 + nt * 4) x wd = (nI (vbits w (50 + a * 4) x (tw a) / 2 ^ j)).toBitVec.toNat % 2 ^ wd
    have hdl := Nat.div_le_self (vbits w (50 + a * 4) x (tw a)) (2 ^ j)
    rw [tn_nI (by omega)]
    refine vb_of _ _ _ _ _ (fun z hz => ?_)
    rw [pb_copy _ _ _ _ hx, if_pos ⟨by omega, by omega⟩, show 50 + a * 4 + j + (50 + nt * 4 + z - (50 + nt * 4)) = 50 + a * 4 + (z + j) by omega, vb_pb w (50 + a * 4) x (show z + j < tw a by omega), fin_shr _ va j (by omega) z (by omega)]
theorem fRes_val {nt nf k a x : Nat} {tw : Nat → Nat} {b : Int32} {w : Nat → Int64} (hx : x < 1024) (hnt : nt ≤ 50) (hnf : nf < 50) (ht : ∀ j, j < nt → 1 ≤ tw j ∧ tw j ≤ 4) (hd : dF nt nf tw k a b) :
    pBit (fRes k a (nB b) nf tw w) nf x = truB k a (nB b) (VX tw w x) (HX w x) tw ∧ ∀ r, r ≠ nf → r < 256 → pBit (fRes k a (nB b) nf tw w) r x = pBit w r x := by
  rcases hd with ⟨hk4, ha, j, hj, rfl, ej⟩ | ⟨rfl, ha, j, rfl, hj⟩ | ⟨rfl, ha⟩ | ⟨hk7, hk10, ha, j, hj, rfl⟩
  · have oa := ht a ha
    have va := vb_16 w (50 + a * 4) x oa.2
    have vj := vb_16 w (50 + j * 4) x oa.2
    have la := vbits_lt w (50 + a * 4) x (tw a)
    have lj := vbits_lt w (50 + j * 4) x (tw a)
    have ls : ∀ (a b : Nat) (sg : Bool), a + tw a ≤ a + 4 → a + 4 ≤ 250 → b + 4 ≤ 250 → True := fun _ _ _ _ _ _ => trivial
    have hless : ∀ (sg : Bool) (ra rb : Nat), nf < ra → ra + 4 ≤ 250 → nf < rb → rb + 4 ≤ 250 → pBit (cLess nf ra rb (tw a) sg w) nf x = lessF (bT (vbits w ra x (tw a))) (bT (vbits w rb x (tw a))) (tw a) sg (tw a) ∧ ∀ r, r ≠ nf → r < 256 → pBit (cLess nf ra rb (tw a) sg w) r x = pBit w r x := by
      intro sg ra rb q1 q2 q3 q4
      obtain ⟨i1, i2⟩ := cLessN_inv (to := nf) (a := ra) (b := rb) (wd := tw a) (sg := sg) (oFill false nf 1 w) hx (by rw [pb_fill1 _ _ _ hx, if_pos rfl]) (tw a) (by omega) (Nat.le_refl _) (by omega) (by omega) (by omega) (by omega)
      refine ⟨?_, fun r hr h6 => by show pBit (cLessN nf ra rb (tw a) sg (tw a) (oFill false nf 1 w)) r x = _; rw [i2 r hr (by omega), pb_fill1 _ _ _ hx, if_neg hr]⟩
      show pBit (cLessN nf ra rb (tw a) sg (tw a) (oFill false nf 1 w)) nf x = _
      rw [i1]
      refine lessF_congr (tw a) (fun z hz => ⟨?_, ?_⟩)
      · rw [pb_fill1 _ _ _ hx, if_neg (by omega), vb_pb w ra x hz]
      · rw [pb_fill1 _ _ _ hx, if_neg (by omega), vb_pb w rb x hz]
    rw [nB_I (by omega)]
    rcases (show k = 0 ∨ k = 1 ∨ k = 2 ∨ k = 3 ∨ k = 4 by omega) with rfl | rfl | rfl | rfl | rfl
    · obtain ⟨i1, i2⟩ := cEqN_inv (to := nf) (a := 50 + a * 4) (b := 50 + j * 4) (oFill true nf 1 w) hx (tw a) (by omega) (by omega) (by omega) (by omega) (by omega)
      refine ⟨?_, fun r hr h6 => by show pBit (cEqN nf (50 + a * 4) (50 + j * 4) (tw a) (oFill true nf 1 w)) r x = _; rw [i2 r hr (by omega), pb_fill1 _ _ _ hx, if_neg hr]⟩
      show pBit (cEqN nf (50 + a * 4) (50 + j * 4) (tw a) (oFill true nf 1 w)) nf x = decide (vbits w (50 + a * 4) x (tw a) = vbits w (50 + j * 4) x (tw j))
      rw [i1, pb_fill1 _ _ _ hx, if_pos rfl, Bool.true_and, ← ej, vbits_congr (w' := w) (row' := 50 + a * 4) (tw a) (fun z hz => by rw [pb_fill1 _ _ _ hx, if_neg (by omega)]) (row := 50 + a * 4) (w := oFill true nf 1 w), vbits_congr (w' := w) (row' := 50 + j * 4) (tw a) (fun z hz => by rw [pb_fill1 _ _ _ hx, if_neg (by omega)]) (row := 50 + j * 4) (w := oFill true nf 1 w)]
    · obtain ⟨i1, i2⟩ := hless false (50 + a * 4) (50 + j * 4) (by omega) (by omega) (by omega) (by omega)
      refine ⟨?_, i2⟩
      show pBit (cLess nf (50 + a * 4) (50 + j * 4) (tw a) false w) nf x = decide (vbits w (50 + a * 4) x (tw a) < vbits w (50 + j * 4) x (tw j))
      rw [i1, ← ej, fin_lt (tw a) (by omega) _ va _ vj la lj]
    · obtain ⟨i1, i2⟩ := hless false (50 + j * 4) (50 + a * 4) (by omega) (by omega) (by omega) (by omega)
      refine ⟨?_, fun r hr h6 => by show pBit (oTurn nf nf 1 (cLess nf (50 + j * 4) (50 + a * 4) (tw a) false w)) r x = _; rw [pb_turn1 _ _ _ hx, if_neg hr]; exact i2 r hr h6⟩
      show pBit (oTurn nf nf 1 (cLess nf (50 + j * 4) (50 + a * 4) (tw a) false w)) nf x = decide (vbits w (50 + a * 4) x (tw a) ≤ vbits w (50 + j * 4) x (tw j))
      rw [pb_turn1 _ _ _ hx, if_pos rfl, i1, ← ej, fin_lt (tw a) (by omega) _ vj _ va lj la]
      by_cases q : vbits w (50 + j * 4) x (tw a) < vbits w (50 + a * 4) x (tw a)
      · rw [decide_eq_true q, decide_eq_false (by omega)]; rfl
      · rw [decide_eq_false q, decide_eq_true (by omega)]; rfl
    · obtain ⟨i1, i2⟩ := hless true (50 + a * 4) (50 + j * 4) (by omega) (by omega) (by omega) (by omega)
      refine ⟨?_, i2⟩
      show pBit (cLess nf (50 + a * 4) (50 + j * 4) (tw a) true w) nf x = decide ((sgI (vbits w (50 + a * 4) x (tw a)) (tw a)).toInt < (sgI (vbits w (50 + j * 4) x (tw j)) (tw j)).toInt)
      rw [i1, ← ej, fin_slt (tw a) (by omega) oa.1 _ va _ vj la lj]
    · obtain ⟨i1, i2⟩ := hless true (50 + j * 4) (50 + a * 4) (by omega) (by omega) (by omega) (by omega)
      refine ⟨?_, fun r hr h6 => by show pBit (oTurn nf nf 1 (cLess nf (50 + j * 4) (50 + a * 4) (tw a) true w)) r x = _; rw [pb_turn1 _ _ _ hx, if_neg hr]; exact i2 r hr h6⟩
      show pBit (oTurn nf nf 1 (cLess nf (50 + j * 4) (50 + a * 4) (tw a) true w)) nf x = decide ((sgI (vbits w (50 + a * 4) x (tw a)) (tw a)).toInt ≤ (sgI (vbits w (50 + j * 4) x (tw j)) (tw j)).toInt)
      rw [pb_turn1 _ _ _ hx, if_pos rfl, i1, ← ej, fin_slt (tw a) (by omega) oa.1 _ vj _ va lj la]
      by_cases q : (sgI (vbits w (50 + j * 4) x (tw a)) (tw a)).toInt < (sgI (vbits w (50 + a * 4) x (tw a)) (tw a)).toInt
      · rw [decide_eq_true q, decide_eq_false (by omega)]; rfl
      · rw [decide_eq_false q, decide_eq_true (by omega)]; rfl
  · have oa := ht a ha
    rw [nB_I (by omega)]
    refine ⟨?_, fun r hr h6 => by show pBit (oCopy nf (50 + a * 4 + j) 1 w) r x = _; rw [pb_copy1 _ _ _ hx, if_neg hr]⟩
    show pBit (oCopy nf (50 + a * 4 + j) 1 w) nf x = decide (vbits w (50 + a * 4) x (tw a) / 2 ^ j % 2 = 1)
    rw [pb_copy1 _ _ _ hx, if_pos rfl, vbits_pb w (50 + a * 4) x hj]
  · refine ⟨?_, fun r hr h6 => by show pBit (oTurn nf a 1 w) r x = _; rw [pb_turn1 _ _ _ hx, if_neg hr]⟩
    show pBit (oTurn nf a 1 w) nf x = !pBit w a x
    rw [pb_turn1 _ _ _ hx, if_pos rfl]
  · rw [nB_I (by omega)]
    rcases (show k = 7 ∨ k = 8 ∨ k = 9 ∨ k = 10 by omega) with rfl | rfl | rfl | rfl
    · refine ⟨?_, fun r hr h6 => by show pBit (oAnd nf a j 1 w) r x = _; rw [pb_and1 _ _ _ _ hx, if_neg hr]⟩
      show pBit (oAnd nf a j 1 w) nf x = (pBit w a x && pBit w j x)
      rw [pb_and1 _ _ _ _ hx, if_pos rfl]
    · refine ⟨?_, fun r hr h6 => by show pBit (oOr nf a j 1 w) r x = _; rw [pb_or1 _ _ _ _ hx, if_neg hr]⟩
      show pBit (oOr nf a j 1 w) nf x = (pBit w a x || pBit w j x)
      rw [pb_or1 _ _ _ _ hx, if_pos rfl]
    · refine ⟨?_, fun r hr h6 => by show pBit (oXor nf a j 1 w) r x = _; rw [pb_xor1 _ _ _ _ hx, if_neg hr]⟩
      show pBit (oXor nf a j 1 w) nf x = (pBit w a x ^^ pBit w j x)
      rw [pb_xor1 _ _ _ _ hx, if_pos rfl]
    · refine ⟨?_, fun r hr h6 => by show pBit (oOr nf nf j 1 (oTurn nf a 1 w)) r x = _; rw [pb_or1 _ _ _ _ hx, if_neg hr, pb_turn1 _ _ _ hx, if_neg hr]⟩
      show pBit (oOr nf nf j 1 (oTurn nf a 1 w)) nf x = (!pBit w a x || pBit w j x)
      rw [pb_or1 _ _ _ _ hx, if_pos rfl, pb_turn1 _ _ _ hx, if_pos rfl, pb_turn1 _ _ _ hx, if_neg (by omega)]
