abbrev setsW (hs hw : Nat) (cL : ClassId) (w : Nat → Int64) : va_W := [(hs, .inr (1, [.ref hw])), (hw, .inl (cL, 4160, .inr (.inl w)))]
abbrev circW (hc hs hw : Nat) (cL : ClassId) (w : Nat → Int64) : va_W := [(hc, .inr (2, [.ref hs])), (hs, .inr (1, [.ref hw])), (hw, .inl (cL, 4160, .inr (.inl w)))]
abbrev bsW (ad : Nat → Nat) (cL cI : ClassId) (nv nb nt nf na lv nm : Nat) (vw vp tw ab am : Nat → Nat) (w : Nat → Int64) : va_W :=
  [(ad 0, .inr (0, [.ref (ad 2), .ref (ad 1), .ref (ad 4), .ref (ad 5), .int (nI nv), .int (nI nb), .ref (ad 6), .int (nI nt), .int (nI nf), .ref (ad 7), .int (nI na), .int (nI lv), .ref (ad 8), .int (nI nm)])),
   (ad 1, .inr (2, [.ref (ad 2)])), (ad 2, .inr (1, [.ref (ad 3)])), (ad 3, .inl (cL, 4160, .inr (.inl w))),
   (ad 4, .inl (cI, 6, .inl (fun j => nI (vw j)))), (ad 5, .inl (cI, 6, .inl (fun j => nI (vp j)))), (ad 6, .inl (cI, 50, .inl (fun j => nI (tw j)))), (ad 7, .inl (cI, 6, .inl (fun j => nI (ab j)))), (ad 8, .inl (cI, 8, .inl (fun j => nI (am j))))]
theorem Zt_A2 {n0 t0 q hs hw : Nat} {cL : ClassId} {w : Nat → Int64} {s : State} (h : Zt n0 t0 s) (u1 : n0 ≤ hs) (u2 : n0 ≤ hw) (hq : va_A (setsW hs hw cL w) s.heap.size q) : n0 ≤ q :=
  va_A_ge h.1 (List.forall_mem_cons.mpr ⟨u1, List.forall_mem_cons.mpr ⟨u2, fun _ h => absurd h List.not_mem_nil⟩⟩) hq
theorem Zt_AB {n0 t0 q : Nat} {ad : Nat → Nat} {cL cI : ClassId} {nv nb nt nf na lv nm : Nat} {vw vp tw ab am : Nat → Nat} {w : Nat → Int64} {s : State} (h : Zt n0 t0 s) (u : ∀ i, i < 9 → n0 ≤ ad i) (hq : va_A (bsW ad cL cI nv nb nt nf na lv nm vw vp tw ab am w) s.heap.size q) : n0 ≤ q :=
  va_A_ge h.1 (List.forall_mem_cons.mpr ⟨u 0 (by decide), List.forall_mem_cons.mpr ⟨u 1 (by decide), List.forall_mem_cons.mpr ⟨u 2 (by decide), List.forall_mem_cons.mpr ⟨u 3 (by decide), List.forall_mem_cons.mpr ⟨u 4 (by decide), List.forall_mem_cons.mpr ⟨u 5 (by decide), List.forall_mem_cons.mpr ⟨u 6 (by decide), List.forall_mem_cons.mpr ⟨u 7 (by decide), List.forall_mem_cons.mpr ⟨u 8 (by decide), fun _ h => absurd h List.not_mem_nil⟩⟩⟩⟩⟩⟩⟩⟩⟩) hq
def Bok (nv nb nt nf na lv nm : Nat) (vw vp tw ab am : Nat → Nat) : Prop := nv ≤ 6 ∧ nb ≤ 10 ∧ nt ≤ 50 ∧ nf ≤ 50 ∧ na ≤ 30 ∧ lv ≤ 5 ∧ nm ≤ 8 ∧ (∀ j, j < nv → 1 ≤ vw j ∧ vw j ≤ 4 ∧ vp j + vw j ≤ 10) ∧ (∀ j, j < nt → 1 ≤ tw j ∧ tw j ≤ 4) ∧ (∀ j, j < nm → am j < nf) ∧ (∀ j, 1 ≤ j → j ≤ lv → ab j ≤ na)
def hasB (x : Int32) (n : Nat) : Bool := decide (0 ≤ x.toInt ∧ x.toInt < (n : Int))
def wdB (x : Int32) : Bool := decide (1 ≤ x.toInt ∧ x.toInt ≤ 4)
def tW (nt : Nat) (tw : Nat → Nat) (x : Int32) : Nat := if hasB x nt = true then tw x.toInt.toNat else 0
def cW (nt : Nat) (tw : Nat → Nat) (x y : Int32) : Nat := if tW nt tw x = tW nt tw y then tW nt tw x else 0
def jW (nt : Nat) (tw : Nat → Nat) (x y : Int32) : Nat := if hasB x nt = true ∧ hasB y nt = true then (if 1 ≤ tW nt tw x + tW nt tw y ∧ tW nt tw x + tW nt tw y ≤ 4 then tW nt tw x + tW nt tw y else 0) else 0
def pWk (nv nt nf : Nat) (vw tw : Nat → Nat) (k : Nat) (a b c : Int32) : Nat := match k with
  | 0 => if wdB b = true ∧ 0 ≤ a.toInt ∧ a.toInt < ((2 ^ b.toInt.toNat : Nat) : Int) then b.toInt.toNat else 0
  | 1 => if hasB a nv = true then vw a.toInt.toNat else 0
  | 2 => cW nt tw a b
  | 3 => cW nt tw a b
  | 4 => cW nt tw a b
  | 5 => cW nt tw a b
  | 6 => cW nt tw a b
  | 7 => cW nt tw a b
  | 8 => tW nt tw a
  | 9 => if 0 ≤ b.toInt ∧ b.toInt ≤ 4 then tW nt tw a else 0
  | 10 => if 0 ≤ b.toInt ∧ b.toInt ≤ 4 then tW nt tw a else 0
  | 11 => if 0 ≤ b.toInt ∧ b.toInt ≤ 4 then tW nt tw a else 0
  | 12 => if hasB a nf = true then cW nt tw b c else 0
  | 13 => jW nt tw a b
  | 14 => if 0 ≤ b.toInt ∧ b.toInt ≤ c.toInt ∧ c.toInt < (tW nt tw a : Int) then (c.toInt - b.toInt + 1).toNat else 0
  | _ => 0
def pW (nv nt nf : Nat) (vw tw : Nat → Nat) (kd a b c : Int32) : Nat := if 0 ≤ kd.toInt ∧ kd.toInt ≤ 14 then pWk nv nt nf vw tw kd.toInt.toNat a b c else 0
def fOk (nt nf : Nat) (tw : Nat → Nat) (k : Nat) (a b : Int32) : Bool := match k with
  | 0 => decide (0 < cW nt tw a b)
  | 1 => decide (0 < cW nt tw a b)
  | 2 => decide (0 < cW nt tw a b)
  | 3 => decide (0 < cW nt tw a b)
  | 4 => decide (0 < cW nt tw a b)
  | 5 => decide (0 ≤ b.toInt ∧ b.toInt < (tW nt tw a : Int))
  | 6 => hasB a nf
  | 7 => hasB a nf && hasB b nf
  | 8 => hasB a nf && hasB b nf
  | 9 => hasB a nf && hasB b nf
  | 10 => hasB a nf && hasB b nf
  | _ => false
def pF (nt nf : Nat) (tw : Nat → Nat) (kd a b : Int32) : Bool := if 0 ≤ kd.toInt ∧ kd.toInt ≤ 10 then fOk nt nf tw kd.toInt.toNat a b else false
theorem hasB_t {x : Int32} {n : Nat} (h1 : 0 ≤ x.toInt) (h2 : x.toInt < (n : Int)) : hasB x n = true := decide_eq_true ⟨h1, h2⟩
theorem hasB_f {x : Int32} {n : Nat} (h : ¬ (0 ≤ x.toInt ∧ x.toInt < (n : Int))) : hasB x n = false := decide_eq_false h
theorem hasB_nat {x : Int32} {n : Nat} (h : hasB x n = true) : ∃ j : Nat, j < n ∧ x = nI j := by
  have h2 := of_decide_eq_true h
  exact z_nat h2.1 h2.2
theorem hasB_I {j n : Nat} (h : j < n) (hn : n < 2 ^ 31) : hasB (nI j) n = true := by
  have h3 := nI_toInt (n := j) (by omega)
  exact hasB_t (by rw [h3]; omega) (by rw [h3]; omega)
theorem tW_I {nt j : Nat} {tw : Nat → Nat} (h : j < nt) (hn : nt < 2 ^ 31) : tW nt tw (nI j) = tw j := by
  unfold tW
  rw [if_pos (hasB_I h hn), nI_toInt (by omega)]
  rfl
theorem tW_no {nt : Nat} {tw : Nat → Nat} {x : Int32} (h : hasB x nt = false) : tW nt tw x = 0 := by
  unfold tW
  rw [if_neg (by rw [h]; decide)]
theorem tW_le {nt : Nat} {tw : Nat → Nat} (h : ∀ j, j < nt → 1 ≤ tw j ∧ tw j ≤ 4) (hn : nt < 2 ^ 31) (x : Int32) : tW nt tw x ≤ 4 := by
  cases hb : hasB x nt with
  | false => rw [tW_no hb]; omega
  | true =>
    obtain ⟨j, hj, rfl⟩ := hasB_nat hb
    rw [tW_I hj hn]
    exact (h j hj).2
def oAsm (am : Nat → Nat) (P : Nat) : Nat → (Nat → Int64) → (Nat → Int64)
  | 0, w => w
  | k + 1, w => if P / 2 ^ k % 2 = 1 then oAnd 256 256 (am k) 1 (oAsm am P k w) else oAsm am P k w
def wAsm (am : Nat → Nat) (lv nm P : Nat) (w : Nat → Int64) : Nat → Int64 := oAsm am P nm (oCopy 256 (250 + lv) 1 w)
def pCan (am : Nat → Nat) (lv nm P : Nat) (w : Nat → Int64) : Bool := !pNone (wAsm am lv nm P w) 256 256
def oNum (to num : Nat) : Nat → (Nat → Int64) → (Nat → Int64)
  | 0, w => w
  | k + 1, w => oFill (decide (num / 2 ^ k % 2 = 1)) (to + k) 1 (oNum to num k w)
def oVar (to pl : Nat) : Nat → (Nat → Int64) → (Nat → Int64)
  | 0, w => w
  | k + 1, w => oPlace (to + k) (pl + k) (oVar to pl k w)
theorem cW_le {nt : Nat} {tw : Nat → Nat} (h : ∀ j, j < nt → 1 ≤ tw j ∧ tw j ≤ 4) (hn : nt < 2 ^ 31) (x y : Int32) : cW nt tw x y ≤ 4 := by
  unfold cW
  split
  · exact tW_le h hn x
  · omega
theorem jW_I {nt i j : Nat} {tw : Nat → Nat} (hi : i < nt) (hj : j < nt) (hn : nt < 2 ^ 31) : jW nt tw (nI i) (nI j) = if 1 ≤ tw i + tw j ∧ tw i + tw j ≤ 4 then tw i + tw j else 0 := by
  unfold jW
  rw [if_pos ⟨hasB_I hi hn, hasB_I hj hn⟩, tW_I hi hn, tW_I hj hn]
theorem wdB_I {n : Nat} (hn : n < 2 ^ 31) : wdB (nI n) = decide (1 ≤ n ∧ n ≤ 4) := by
  unfold wdB
  rw [nI_toInt hn]
  by_cases h : 1 ≤ n ∧ n ≤ 4
  · rw [decide_eq_true h, decide_eq_true (by omega)]
  · rw [decide_eq_false h, decide_eq_false (by omega)]
theorem wdB_nat {x : Int32} (h : wdB x = true) : ∃ j : Nat, 1 ≤ j ∧ j ≤ 4 ∧ x = nI j := by
  have h2 := of_decide_eq_true h
  exact ⟨x.toInt.toNat, by omega, by omega, z_of (by omega)⟩
theorem pW0_t {nv nt nf j : Nat} {vw tw : Nat → Nat} {ka kc : Int32} (h1 : 1 ≤ j) (h4 : j ≤ 4) (h0 : 0 ≤ ka.toInt) (h : ka.toInt < ((2 ^ j : Nat) : Int)) : pWk nv nt nf vw tw 0 ka (nI j) kc = j := by
  have e := nI_toInt (n := j) (by omega)
  have hw : wdB (nI j) = true := by rw [wdB_I (by omega)]; exact decide_eq_true ⟨h1, h4⟩
  show (if wdB (nI j) = true ∧ 0 ≤ ka.toInt ∧ ka.toInt < ((2 ^ (nI j).toInt.toNat : Nat) : Int) then (nI j).toInt.toNat else 0) = j
  rw [if_pos ⟨hw, h0, by rw [e]; exact h⟩, e]
  rfl
theorem pW0_w {nv nt nf : Nat} {vw tw : Nat → Nat} {ka kb kc : Int32} (h : wdB kb = false) : pWk nv nt nf vw tw 0 ka kb kc = 0 := if_neg (fun q => by rw [h] at q; exact absurd q.1 (by decide))
theorem pW0_f {nv nt nf j : Nat} {vw tw : Nat → Nat} {ka kc : Int32} (h4 : j ≤ 4) (h : ka.toInt < 0 ∨ ((2 ^ j : Nat) : Int) ≤ ka.toInt) : pWk nv nt nf vw tw 0 ka (nI j) kc = 0 := by
  have e := nI_toInt (n := j) (by omega)
  refine if_neg (fun q => ?_)
  obtain ⟨-, q1, q2⟩ := q
  rw [e] at q2
  have q2 : ka.toInt < ((2 ^ j : Nat) : Int) := q2
  omega
theorem pW1_t {nv nt nf j : Nat} {vw tw : Nat → Nat} {kb kc : Int32} (h : j < nv) (hn : nv < 2 ^ 31) : pWk nv nt nf vw tw 1 (nI j) kb kc = vw j := by
  show (if hasB (nI j) nv = true then vw (nI j).toInt.toNat else 0) = vw j
  rw [if_pos (hasB_I h hn), nI_toInt (by omega)]
  rfl
theorem pW1_f {nv nt nf : Nat} {vw tw : Nat → Nat} {ka kb kc : Int32} (h : hasB ka nv = false) : pWk nv nt nf vw tw 1 ka kb kc = 0 := if_neg (by rw [h]; decide)
theorem updN_self (f : Nat → Nat) (k x : Nat) : updN f k x k = x := if_pos rfl
theorem updN_ne (f : Nat → Nat) {k j : Nat} (x : Nat) (h : j ≠ k) : updN f k x j = f j := if_neg h
theorem Bok_tw {nv nb nt nf na lv nm : Nat} {vw vp tw ab am : Nat → Nat} (h : Bok nv nb nt nf na lv nm vw vp tw ab am) (wd : Nat) : Bok nv nb nt nf na lv nm vw vp (updN tw nt wd) ab am := by
  obtain ⟨o1, o2, o3, o4, o5, o6, o7, o8, o9, o10, o11⟩ := h
  exact ⟨o1, o2, o3, o4, o5, o6, o7, o8, fun j hj => by rw [updN_ne _ _ (by omega)]; exact o9 j hj, o10, o11⟩
theorem lowB_le (x : Int64) : ∀ n k : Nat, lowB x n k ≤ k + n := by
  intro n
  induction n with
  | zero => intro k; exact Nat.le_refl _
  | succ n ih =>
    intro k
    unfold lowB
    split
    · omega
    · have := ih (k + 1)
      omega
theorem lowW_lt (w : Nat → Int64) (r : Nat) : ∀ n i : Nat, i + n ≤ 16 → lowW w r n i < 1024 := by
  intro n
  induction n with
  | zero => intro i _; show (0 : Nat) < 1024; omega
  | succ n ih =>
    intro i hi
    unfold lowW
    split
    · exact ih (i + 1) (by omega)
    · have := lowB_le (w (r * 16 + i)) 63 0
      omega
theorem pLow_lt (w : Nat → Int64) (r : Nat) : pLow w r < 1024 := lowW_lt w r 16 0 (by omega)
def vbits (w : Nat → Int64) (row x : Nat) : Nat → Nat
  | 0 => 0
  | k + 1 => if pBit w (row + k) x = true then vbits w row x k ||| 2 ^ k else vbits w row x k
def fxW (pl : Nat) : Nat → (Nat → Int64) → (Nat → Int64)
  | 0, w => w
  | k + 1, w => oPlace 256 (pl + k) (fxW pl k w)
def fxR (pl mr : Nat) (w : Nat → Int64) : Nat → Nat
  | 0 => 0
  | k + 1 => if pWithin (fxW pl (k + 1) w) mr 256 = true ∨ (!pNone (fxW pl (k + 1) w) mr 256) = false then fxR pl mr w k ||| 2 ^ k else fxR pl mr w k
def lsS (row wd : Nat) : Nat → (Nat → Int64) × Nat → (Nat → Int64) × Nat
  | 0, q => q
  | i + 1, q => if pWithin (lsS row wd i q).1 256 (row + (wd - 1 - i)) = true then ((lsS row wd i q).1, (lsS row wd i q).2 ||| 2 ^ (wd - 1 - i)) else (oRemove 256 (row + (wd - 1 - i)) (lsS row wd i q).1, (lsS row wd i q).2)
def clrB (L k : Nat) : Nat := if L / 2 ^ k % 2 = 1 then L - 2 ^ k else L
theorem clrB_I : ∀ L, L < 256 → ∀ k, k < 8 → nI L &&& (nI (2 ^ k) ^^^ (-1)) = nI (clrB L k) := by decide +kernel
theorem clrB_le (L k : Nat) : clrB L k ≤ L := by
  unfold clrB
  split
  · exact Nat.sub_le _ _
  · exact Nat.le_refl _
def blS (am : Nat → Nat) (lv nm : Nat) : Nat → (Nat → Int64) × Nat → (Nat → Int64) × Nat
  | 0, q => q
  | k + 1, q => (wAsm am lv nm (clrB (blS am lv nm k q).2 k) (blS am lv nm k q).1, if pCan am lv nm (clrB (blS am lv nm k q).2 k) (blS am lv nm k q).1 = true then (blS am lv nm k q).2 else clrB (blS am lv nm k q).2 k)
theorem blS_le {am : Nat → Nat} {lv nm : Nat} (q : (Nat → Int64) × Nat) : ∀ k, (blS am lv nm k q).2 ≤ q.2 := by
  intro k
  induction k with
  | zero => exact Nat.le_refl _
  | succ k ih =>
    show (if _ then _ else _) ≤ _
    split
    · exact ih
    · exact Nat.le_trans (clrB_le _ _) ih
def cntF (nv nt nf na lv nm nb k : Nat) : Nat := if k = 0 then nv else if k = 1 then nt else if k = 2 then nf else if k = 3 then na else if k = 4 then lv else if k = 5 then nm else nb
