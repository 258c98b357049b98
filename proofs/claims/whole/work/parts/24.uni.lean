/-! the solver's building methods, all kinds in one -/
def tRes (k a b c wd nt : Nat) (vw vp tw : Nat → Nat) (w : Nat → Int64) : Nat → Int64 := match k with
  | 0 => oNum (50 + nt * 4) a wd w
  | 1 => oVar (50 + nt * 4) (vp a) (vw a) w
  | 2 => cSum (50 + nt * 4) (50 + a * 4) (50 + b * 4) wd w
  | 3 => cDiff (50 + nt * 4) (50 + a * 4) (50 + b * 4) wd w
  | 4 => cProd (50 + nt * 4) (50 + a * 4) (50 + b * 4) wd w
  | 5 => oAnd (50 + nt * 4) (50 + a * 4) (50 + b * 4) wd w
  | 6 => oOr (50 + nt * 4) (50 + a * 4) (50 + b * 4) wd w
  | 7 => oXor (50 + nt * 4) (50 + a * 4) (50 + b * 4) wd w
  | 8 => oTurn (50 + nt * 4) (50 + a * 4) wd w
  | 9 => cUpN (50 + nt * 4) (50 + a * 4) b wd w
  | 10 => cDownN (50 + nt * 4) (50 + a * 4) wd b false wd w
  | 11 => cDownN (50 + nt * 4) (50 + a * 4) wd b true wd w
  | 12 => cChoN (50 + nt * 4) a (50 + b * 4) (50 + c * 4) wd w
  | 13 => oCopy (50 + nt * 4 + tw a) (50 + b * 4) (tw b) (oCopy (50 + nt * 4) (50 + a * 4) (tw a) w)
  | _ => oCopy (50 + nt * 4) (50 + a * 4 + b) wd w
def fRes (k a b nf : Nat) (tw : Nat → Nat) (w : Nat → Int64) : Nat → Int64 := match k with
  | 0 => cEq nf (50 + a * 4) (50 + b * 4) (tw a) w
  | 1 => cLess nf (50 + a * 4) (50 + b * 4) (tw a) false w
  | 2 => cAtMost nf (50 + a * 4) (50 + b * 4) (tw a) false w
  | 3 => cLess nf (50 + a * 4) (50 + b * 4) (tw a) true w
  | 4 => cAtMost nf (50 + a * 4) (50 + b * 4) (tw a) true w
  | 5 => oCopy nf (50 + a * 4 + b) 1 w
  | 6 => oTurn nf a 1 w
  | 7 => oAnd nf a b 1 w
  | 8 => oOr nf a b 1 w
  | 9 => oXor nf a b 1 w
  | _ => oOr nf nf b 1 (oTurn nf a 1 w)
theorem pW_k {nv nt nf k : Nat} {vw tw : Nat → Nat} {a b c : Int32} (hk : k ≤ 14) : pW nv nt nf vw tw (nI k) a b c = pWk nv nt nf vw tw k a b c := by
  unfold pW
  rw [nI_toInt (by omega), if_pos ⟨by omega, by omega⟩]
  rfl
theorem pW_pos {nv nt nf wd : Nat} {vw tw : Nat → Nat} {kd a b c : Int32} (h : pW nv nt nf vw tw kd a b c = wd) (h1 : 1 ≤ wd) : ∃ k, k ≤ 14 ∧ kd = nI k ∧ pWk nv nt nf vw tw k a b c = wd := by
  by_cases q : 0 ≤ kd.toInt ∧ kd.toInt ≤ 14
  · obtain ⟨k, hk, rfl⟩ := z_nat (x := kd) (n := 15) q.1 (by omega)
    exact ⟨k, by omega, rfl, by rw [← pW_k (by omega)]; exact h⟩
  · have h2 : pW nv nt nf vw tw kd a b c = 0 := if_neg q
    omega
theorem tW_pos {nt : Nat} {tw : Nat → Nat} {x : Int32} {wd : Nat} (h : tW nt tw x = wd) (h1 : 1 ≤ wd) (hn : nt < 2 ^ 31) : ∃ i, i < nt ∧ x = nI i ∧ tw i = wd := by
  cases hb : hasB x nt with
  | false => rw [tW_no hb] at h; omega
  | true =>
    obtain ⟨i, hi, rfl⟩ := hasB_nat hb
    rw [tW_I hi hn] at h
    exact ⟨i, hi, rfl, h⟩
theorem cW_pos {nt : Nat} {tw : Nat → Nat} {x y : Int32} {wd : Nat} (h : cW nt tw x y = wd) (h1 : 1 ≤ wd) (hn : nt < 2 ^ 31) : ∃ i j, i < nt ∧ j < nt ∧ x = nI i ∧ y = nI j ∧ tw i = wd ∧ tw j = wd := by
  unfold cW at h
  split at h
  · rename_i e
    obtain ⟨i, hi, rfl, e1⟩ := tW_pos h h1 hn
    obtain ⟨j, hj, rfl, e2⟩ := tW_pos (e.symm.trans h) h1 hn
    exact ⟨i, j, hi, hj, rfl, rfl, e1, e2⟩
  · omega
/-- what a buildable term is -/
def dT (nv nt nf : Nat) (vw tw : Nat → Nat) (k a : Nat) (b c : Int32) (wd : Nat) : Prop :=
  (k = 0 ∧ b = nI wd ∧ a < 2 ^ wd) ∨ (k = 1 ∧ a < nv ∧ vw a = wd) ∨ (2 ≤ k ∧ k ≤ 7 ∧ a < nt ∧ tw a = wd ∧ ∃ j, j < nt ∧ b = nI j ∧ tw j = wd) ∨ (k = 8 ∧ a < nt ∧ tw a = wd) ∨
  (9 ≤ k ∧ k ≤ 11 ∧ a < nt ∧ tw a = wd ∧ ∃ j, j ≤ 4 ∧ b = nI j) ∨ (k = 12 ∧ a < nf ∧ ∃ i j, i < nt ∧ j < nt ∧ b = nI i ∧ c = nI j ∧ tw i = wd ∧ tw j = wd) ∨
  (k = 13 ∧ a < nt ∧ ∃ j, j < nt ∧ b = nI j ∧ tw a + tw j = wd) ∨ (k = 14 ∧ a < nt ∧ ∃ j q, b = nI j ∧ c = nI q ∧ j ≤ q ∧ q < tw a ∧ q - j + 1 = wd)
theorem dT_of {nv nt nf : Nat} {vw tw : Nat → Nat} {kd ka kb kc : Int32} {wd : Nat} (hn : nv < 2 ^ 31 ∧ nt < 2 ^ 31 ∧ nf < 2 ^ 31) (ht : ∀ j, j < nt → 1 ≤ tw j ∧ tw j ≤ 4) (hpW : pW nv nt nf vw tw kd ka kb kc = wd) (h1 : 1 ≤ wd) : ∃ k a, k ≤ 14 ∧ kd = nI k ∧ a < 2 ^ 31 ∧ ka = nI a ∧ dT nv nt nf vw tw k a kb kc wd := by
  obtain ⟨k, hk, rfl, g⟩ := pW_pos hpW h1
  clear hpW
  rcases (show k = 0 ∨ k = 1 ∨ (2 ≤ k ∧ k ≤ 7) ∨ k = 8 ∨ (9 ≤ k ∧ k ≤ 11) ∨ k = 12 ∨ k = 13 ∨ k = 14 by omega) with rfl | rfl | hk' | rfl | hk' | rfl | rfl | rfl
  · have h : (if wdB kb = true ∧ 0 ≤ ka.toInt ∧ ka.toInt < ((2 ^ kb.toInt.toNat : Nat) : Int) then kb.toInt.toNat else 0) = wd := g
    clear g
    split at h
    · rename_i q
      obtain ⟨j, hj1, hj4, rfl⟩ := wdB_nat q.1
      rw [nI_toInt (by omega)] at h q
      have e : j = wd := h
      subst e
      have q2 : ka.toInt < ((2 ^ j : Nat) : Int) := q.2.2
      have o2 : 2 ^ j ≤ 2 ^ 4 := Nat.pow_le_pow_right (by decide) hj4
      exact ⟨0, ka.toInt.toNat, hk, rfl, by omega, z_of q.2.1, Or.inl ⟨rfl, rfl, by omega⟩⟩
    · omega
  · have h : (if hasB ka nv = true then vw ka.toInt.toNat else 0) = wd := g
    clear g
    split at h
    · rename_i q
      obtain ⟨j, hj, rfl⟩ := hasB_nat q
      rw [nI_toInt (by omega)] at h
      exact ⟨1, j, hk, rfl, by omega, rfl, Or.inr (Or.inl ⟨rfl, hj, h⟩)⟩
    · omega
  · have h : cW nt tw ka kb = wd := by
      rcases (show k = 2 ∨ k = 3 ∨ k = 4 ∨ k = 5 ∨ k = 6 ∨ k = 7 by omega) with rfl | rfl | rfl | rfl | rfl | rfl <;> exact g
    obtain ⟨i, j, hi, hj, rfl, rfl, e1, e2⟩ := cW_pos h h1 hn.2.1
    exact ⟨k, i, hk, rfl, by omega, rfl, Or.inr (Or.inr (Or.inl ⟨hk'.1, hk'.2, hi, e1, j, hj, rfl, e2⟩))⟩
  · obtain ⟨i, hi, rfl, e1⟩ := tW_pos (show tW nt tw ka = wd from g) h1 hn.2.1
    exact ⟨8, i, hk, rfl, by omega, rfl, Or.inr (Or.inr (Or.inr (Or.inl ⟨rfl, hi, e1⟩)))⟩
  · have h : (if 0 ≤ kb.toInt ∧ kb.toInt ≤ 4 then tW nt tw ka else 0) = wd := by
      rcases (show k = 9 ∨ k = 10 ∨ k = 11 by omega) with rfl | rfl | rfl <;> exact g
    split at h
    · rename_i q
      obtain ⟨i, hi, rfl, e1⟩ := tW_pos h h1 hn.2.1
      obtain ⟨j, hj, rfl⟩ := z_nat (x := kb) (n := 5) q.1 (by omega)
      exact ⟨k, i, hk, rfl, by omega, rfl, Or.inr (Or.inr (Or.inr (Or.inr (Or.inl ⟨hk'.1, hk'.2, hi, e1, j, by omega, rfl⟩))))⟩
    · omega
  · have h : (if hasB ka nf = true then cW nt tw kb kc else 0) = wd := g
    clear g
    split at h
    · rename_i q
      obtain ⟨a, ha, rfl⟩ := hasB_nat q
      obtain ⟨i, j, hi, hj, rfl, rfl, e1, e2⟩ := cW_pos h h1 hn.2.1
      exact ⟨12, a, hk, rfl, by omega, rfl, Or.inr (Or.inr (Or.inr (Or.inr (Or.inr (Or.inl ⟨rfl, ha, i, j, hi, hj, rfl, rfl, e1, e2⟩)))))⟩
    · omega
  · have h : jW nt tw ka kb = wd := g
    clear g
    have hb : hasB ka nt = true ∧ hasB kb nt = true := by
      unfold jW at h
      split at h
      · rename_i q; exact q
      · omega
    obtain ⟨i, hi, rfl⟩ := hasB_nat hb.1
    obtain ⟨j, hj, rfl⟩ := hasB_nat hb.2
    rw [jW_I hi hj hn.2.1] at h
    split at h
    · exact ⟨13, i, hk, rfl, by omega, rfl, Or.inr (Or.inr (Or.inr (Or.inr (Or.inr (Or.inr (Or.inl ⟨rfl, hi, j, hj, rfl, h⟩))))))⟩
    · omega
  · have h : (if 0 ≤ kb.toInt ∧ kb.toInt ≤ kc.toInt ∧ kc.toInt < (tW nt tw ka : Int) then (kc.toInt - kb.toInt + 1).toNat else 0) = wd := g
    clear g
    split at h
    · rename_i q
      cases hb : hasB ka nt with
      | false => rw [tW_no hb] at q; omega
      | true =>
        obtain ⟨i, hi, rfl⟩ := hasB_nat hb
        rw [tW_I hi hn.2.1] at q
        have hi4 := ht i hi
        obtain ⟨z, hz, rfl⟩ := z_nat (x := kc) (n := 4) (by omega) (by omega)
        obtain ⟨j, hj, rfl⟩ := z_nat (x := kb) (n := 4) (by omega) (by omega)
        rw [nI_toInt (n := z) (by omega), nI_toInt (n := j) (by omega)] at q h
        exact ⟨14, i, hk, rfl, by omega, rfl, Or.inr (Or.inr (Or.inr (Or.inr (Or.inr (Or.inr (Or.inr ⟨rfl, hi, j, z, rfl, rfl, by omega, by omega, by omega⟩))))))⟩
    · omega
def dF (nt nf : Nat) (tw : Nat → Nat) (k a : Nat) (b : Int32) : Prop :=
  (k ≤ 4 ∧ a < nt ∧ ∃ j, j < nt ∧ b = nI j ∧ tw a = tw j) ∨ (k = 5 ∧ a < nt ∧ ∃ j, b = nI j ∧ j < tw a) ∨ (k = 6 ∧ a < nf) ∨ (7 ≤ k ∧ k ≤ 10 ∧ a < nf ∧ ∃ j, j < nf ∧ b = nI j)
theorem dF_of {nt nf : Nat} {tw : Nat → Nat} {kd ka kb : Int32} (hn : nt < 2 ^ 31 ∧ nf < 2 ^ 31) (ht : ∀ j, j < nt → 1 ≤ tw j ∧ tw j ≤ 4) (h : pF nt nf tw kd ka kb = true) : ∃ k a, k ≤ 10 ∧ kd = nI k ∧ a < 2 ^ 31 ∧ ka = nI a ∧ dF nt nf tw k a kb := by
  by_cases q : 0 ≤ kd.toInt ∧ kd.toInt ≤ 10
  · obtain ⟨k, hk, rfl⟩ := z_nat (x := kd) (n := 11) q.1 (by omega)
    have e := nI_toInt (n := k) (by omega)
    rcases (show k ≤ 4 ∨ k = 5 ∨ k = 6 ∨ 7 ≤ k by omega) with hk' | rfl | rfl | hk'
    · rw [pF_lo (by omega) (by omega)] at h
      obtain ⟨i, j, hi, hj, rfl, rfl, e1, e2⟩ := cW_pos (wd := cW nt tw ka kb) rfl (of_decide_eq_true h) hn.1
      exact ⟨k, i, by omega, rfl, by omega, rfl, Or.inl ⟨hk', hi, j, hj, rfl, e1.trans e2.symm⟩⟩
    · rw [pF_5 (by omega)] at h
      have h := of_decide_eq_true h
      cases hb : hasB ka nt with
      | false => rw [tW_no hb] at h; omega
      | true =>
        obtain ⟨i, hi, rfl⟩ := hasB_nat hb
        rw [tW_I hi hn.1] at h
        have hi4 := ht i hi
        obtain ⟨j, hj, rfl⟩ := z_nat (x := kb) (n := tw i) (by omega) (by omega)
        exact ⟨5, i, by omega, rfl, by omega, rfl, Or.inr (Or.inl ⟨rfl, hi, j, rfl, hj⟩)⟩
    · rw [pF_6 (by omega)] at h
      obtain ⟨i, hi, rfl⟩ := hasB_nat h
      exact ⟨6, i, by omega, rfl, by omega, rfl, Or.inr (Or.inr (Or.inl ⟨rfl, hi⟩))⟩
    · rw [pF_7 (by omega) (by omega), Bool.and_eq_true] at h
      obtain ⟨i, hi, rfl⟩ := hasB_nat h.1
      obtain ⟨j, hj, rfl⟩ := hasB_nat h.2
      exact ⟨k, i, by omega, rfl, by omega, rfl, Or.inr (Or.inr (Or.inr ⟨hk', by omega, hi, j, hj, rfl⟩))⟩
  · rw [pF_no (by omega)] at h
    cases h
theorem Fn.wX {l : Launch} {y : MethodName} {wd : List Cond} {rm : Room} {D : va_G} {cl : List vw_C} {tys : List (ClassId × FieldType)} {av : List Value} {w0 : va_W} {X : State → Prop} {ans : Option Value} {w1 : va_W} (h : Fn l y wd rm D cl tys av w0 XT ans w1) : Fn l y wd rm D cl tys av w0 X ans w1 := by
  intro sz
  exact MetFree.mono (h sz) (fun a s q => ⟨q.1, q.2.1, q.2.2.1, q.2.2.2.1, q.2.2.2.2.1, trivial⟩) (fun _ _ _ _ _ _ => trivial) (fun _ _ _ _ _ q => q)
set_option maxHeartbeats 4000000 in
set_option maxRecDepth 100000 in
theorem c_B_termU (l : Launch) (D : va_G) (ad : Nat → Nat) (cL cI : ClassId) (nv nb nt nf na lv nm : Nat) (vw vp tw ab am : Nat → Nat) (w : Nat → Int64) (hok : Bok nv nb nt nf na lv nm vw vp tw ab am) (n0 t0 : Nat) (u : ∀ i, i < 9 → n0 ≤ ad i) (k a : Nat) (kb kc : Int32) (wd : Nat) (hk : k ≤ 14) (ha31 : a < 2 ^ 31) (h1 : 1 ≤ wd) (h4 : wd ≤ 4) (hnt : nt < 50) (hw : pW nv nt nf vw tw (nI k) (nI a) kb kc = wd) (hd : dT nv nt nf vw tw k a kb kc wd) : Fn l y_B_term (wk y_B_term b_B_term 6 (some .int)) rm_B_term D cls [(cL, .long), (cI, .int)] [.ref (ad 0), .int (nI k), .int (nI a), .int kb, .int kc] (bsW ad cL cI nv nb nt nf na lv nm vw vp tw ab am w) (Zt n0 t0) (some (.int (nI nt))) (bsW ad cL cI nv nb (nt + 1) nf na lv nm vw vp (updN tw nt wd) ab am (tRes k a (nB kb) (nB kc) wd nt vw vp tw w)) := by
  obtain ⟨o_nv, o_nb, o_nt, o_nf, o_na, o_lv, o_nm, o_vw, o_tw, o_am, o_ab⟩ := id hok
  rcases hd with ⟨rfl, rfl, ha⟩ | ⟨rfl, ha, ew⟩ | ⟨hk2, hk7, ha, ea, j, hj, rfl, ej⟩ | ⟨rfl, ha, ea⟩ | ⟨hk2, hk7, ha, ea, j, hj, rfl⟩ | ⟨rfl, ha, i, j, hi, hj, rfl, rfl, ei, ej⟩ | ⟨rfl, ha, j, hj, rfl, es⟩ | ⟨rfl, ha, j, q, rfl, rfl, hjq, hq, es⟩
  · exact Fn.wX (c_B_term_0 l D ad cL cI nv nb nt nf na lv nm vw vp tw ab am w hok a (nI wd) kc ha31 wd hw h1 h4 hnt)
  · exact c_B_term_1 l D ad cL cI nv nb nt nf na lv nm vw vp tw ab am w hok n0 t0 u a kb kc ha wd hw h1 h4 hnt
  · rw [nB_I (j := j) (by omega)]
    rcases (show k = 2 ∨ k = 3 ∨ k = 4 ∨ k = 5 ∨ k = 6 ∨ k = 7 by omega) with rfl | rfl | rfl | rfl | rfl | rfl
    · exact Fn.wX (c_B_term_2 l D ad cL cI nv nb nt nf na lv nm vw vp tw ab am w hok a j kc ha hj wd hw h1 h4 hnt)
    · exact Fn.wX (c_B_term_3 l D ad cL cI nv nb nt nf na lv nm vw vp tw ab am w hok a j kc ha hj wd hw h1 h4 hnt)
    · exact Fn.wX (c_B_term_4 l D ad cL cI nv nb nt nf na lv nm vw vp tw ab am w hok a j kc ha hj wd hw h1 h4 hnt)
    · exact Fn.wX (c_B_term_5 l D ad cL cI nv nb nt nf na lv nm vw vp tw ab am w hok a j kc ha hj wd hw h1 h4 hnt)
    · exact Fn.wX (c_B_term_6 l D ad cL cI nv nb nt nf na lv nm vw vp tw ab am w hok a j kc ha hj wd hw h1 h4 hnt)
    · exact Fn.wX (c_B_term_7 l D ad cL cI nv nb nt nf na lv nm vw vp tw ab am w hok a j kc ha hj wd hw h1 h4 hnt)
  · exact Fn.wX (c_B_term_8 l D ad cL cI nv nb nt nf na lv nm vw vp tw ab am w hok a kb kc ha wd hw h1 h4 hnt)
  · rw [nB_I (j := j) (by omega)]
    rcases (show k = 9 ∨ k = 10 ∨ k = 11 by omega) with rfl | rfl | rfl
    · exact Fn.wX (c_B_term_9 l D ad cL cI nv nb nt nf na lv nm vw vp tw ab am w hok a j kc ha hj wd hw h1 h4 hnt)
    · exact Fn.wX (c_B_term_10 l D ad cL cI nv nb nt nf na lv nm vw vp tw ab am w hok a j kc ha hj wd hw h1 h4 hnt)
    · exact Fn.wX (c_B_term_11 l D ad cL cI nv nb nt nf na lv nm vw vp tw ab am w hok a j kc ha hj wd hw h1 h4 hnt)
  · rw [nB_I (j := i) (by omega), nB_I (j := j) (by omega)]
    exact Fn.wX (c_B_term_12 l D ad cL cI nv nb nt nf na lv nm vw vp tw ab am w hok a i j ha hi hj wd hw h1 h4 hnt)
  · rw [nB_I (j := j) (by omega)]
    exact Fn.wX (c_B_term_13 l D ad cL cI nv nb nt nf na lv nm vw vp tw ab am w hok a j kc ha hj wd hw h1 h4 hnt es)
  · have ot := o_tw a ha
    rw [nB_I (j := j) (by omega), nB_I (j := q) (by omega)]
    exact Fn.wX (c_B_term_14 l D ad cL cI nv nb nt nf na lv nm vw vp tw ab am w hok a j (nI q) ha wd hw h1 h4 hnt (by omega))
set_option maxHeartbeats 4000000 in
set_option maxRecDepth 100000 in
theorem c_B_formulaU (l : Launch) (D : va_G) (ad : Nat → Nat) (cL cI : ClassId) (nv nb nt nf na lv nm : Nat) (vw vp tw ab am : Nat → Nat) (w : Nat → Int64) (hok : Bok nv nb nt nf na lv nm vw vp tw ab am) (k a : Nat) (kb : Int32) (hk : k ≤ 10) (hnf : nf < 50) (hf : pF nt nf tw (nI k) (nI a) kb = true) (hd : dF nt nf tw k a kb) : Fn l y_B_formula (wk y_B_formula b_B_formula 4 (some .int)) rm_B_formula D cls [(cL, .long), (cI, .int)] [.ref (ad 0), .int (nI k), .int (nI a), .int kb] (bsW ad cL cI nv nb nt nf na lv nm vw vp tw ab am w) XT (some (.int (nI nf))) (bsW ad cL cI nv nb nt (nf + 1) na lv nm vw vp tw ab am (fRes k a (nB kb) nf tw w)) := by
  obtain ⟨o_nv, o_nb, o_nt, o_nf, o_na, o_lv, o_nm, o_vw, o_tw, o_am, o_ab⟩ := id hok
  rcases hd with ⟨hk4, ha, j, hj, rfl, ej⟩ | ⟨rfl, ha, j, rfl, hj⟩ | ⟨rfl, ha⟩ | ⟨hk7, -, ha, j, hj, rfl⟩
  · rw [nB_I (j := j) (by omega)]
    rcases (show k = 0 ∨ k = 1 ∨ k = 2 ∨ k = 3 ∨ k = 4 by omega) with rfl | rfl | rfl | rfl | rfl
    · exact c_B_formula_0 l D ad cL cI nv nb nt nf na lv nm vw vp tw ab am w hok a j ha hj hf hnf
    · exact c_B_formula_1 l D ad cL cI nv nb nt nf na lv nm vw vp tw ab am w hok a j ha hj hf hnf
    · exact c_B_formula_2 l D ad cL cI nv nb nt nf na lv nm vw vp tw ab am w hok a j ha hj hf hnf
    · exact c_B_formula_3 l D ad cL cI nv nb nt nf na lv nm vw vp tw ab am w hok a j ha hj hf hnf
    · exact c_B_formula_4 l D ad cL cI nv nb nt nf na lv nm vw vp tw ab am w hok a j ha hj hf hnf
  · have ot := o_tw a ha
    rw [nB_I (j := j) (by omega)]
    exact c_B_formula_5 l D ad cL cI nv nb nt nf na lv nm vw vp tw ab am w hok a j ha (by omega) hf hnf
  · exact c_B_formula_6 l D ad cL cI nv nb nt nf na lv nm vw vp tw ab am w hok a kb ha hf hnf
  · rw [nB_I (j := j) (by omega)]
    rcases (show k = 7 ∨ k = 8 ∨ k = 9 ∨ k = 10 by omega) with rfl | rfl | rfl | rfl
    · exact c_B_formula_7 l D ad cL cI nv nb nt nf na lv nm vw vp tw ab am w hok a j ha hj hf hnf
    · exact c_B_formula_8 l D ad cL cI nv nb nt nf na lv nm vw vp tw ab am w hok a j ha hj hf hnf
    · exact c_B_formula_9 l D ad cL cI nv nb nt nf na lv nm vw vp tw ab am w hok a j ha hj hf hnf
    · exact c_B_formula_10 l D ad cL cI nv nb nt nf na lv nm vw vp tw ab am w hok a j ha hj hf hnf
set_option maxHeartbeats 4000000 in
set_option maxRecDepth 100000 in
theorem c_B_countU (l : Launch) (D : va_G) (ad : Nat → Nat) (cL cI : ClassId) (nv nb nt nf na lv nm : Nat) (vw vp tw ab am : Nat → Nat) (w : Nat → Int64) (hok : Bok nv nb nt nf na lv nm vw vp tw ab am) (k : Nat) (hk : k < 7) : Fn l y_B_count (wk y_B_count b_B_count 2 (some .int)) rm_B_count D cls [(cL, .long), (cI, .int)] [.ref (ad 0), .int (nI k)] (bsW ad cL cI nv nb nt nf na lv nm vw vp tw ab am w) XT (some (.int (nI (cntF nv nt nf na lv nm nb k)))) (bsW ad cL cI nv nb nt nf na lv nm vw vp tw ab am w) := by
  rcases (show k = 0 ∨ k = 1 ∨ k = 2 ∨ k = 3 ∨ k = 4 ∨ k = 5 ∨ k = 6 by omega) with rfl | rfl | rfl | rfl | rfl | rfl | rfl
  · exact c_B_count_0 l D ad cL cI nv nb nt nf na lv nm vw vp tw ab am w hok
  · exact c_B_count_1 l D ad cL cI nv nb nt nf na lv nm vw vp tw ab am w hok
  · exact c_B_count_2 l D ad cL cI nv nb nt nf na lv nm vw vp tw ab am w hok
  · exact c_B_count_3 l D ad cL cI nv nb nt nf na lv nm vw vp tw ab am w hok
  · exact c_B_count_4 l D ad cL cI nv nb nt nf na lv nm vw vp tw ab am w hok
  · exact c_B_count_5 l D ad cL cI nv nb nt nf na lv nm vw vp tw ab am w hok
  · exact c_B_count_6 l D ad cL cI nv nb nt nf na lv nm vw vp tw ab am w hok
set_option maxHeartbeats 4000000 in
set_option maxRecDepth 100000 in
theorem c_M_countU (l : Launch) (D : va_G) (ma : Nat → Nat) (cI cZ : ClassId) (th nv nb nt nf na lv nm : Nat) (vw tk ta : Nat → Nat) (tb tc : Nat → Int32) (tw fk fa : Nat → Nat) (fb : Nat → Int32) (od sd aa am vl : Nat → Nat) (ho : Nat → Bool) (hok : Mok nv nb nt nf na lv nm vw tk ta tb tc tw fk fa fb od sd am vl) (k : Nat) (hk : k < 7) : Fn l y_M_count (wk y_M_count b_M_count 2 (some .int)) rm_M_count D cls [(cI, .int), (cZ, .boolean)] [.ref (ma 0), .int (nI k)] (mW ma cI cZ th nv nb nt nf na lv nm vw tk ta tb tc tw fk fa fb od sd aa am vl ho) XT (some (.int (nI (cntF nv nt nf na lv nm nb k)))) (mW ma cI cZ 0 nv nb nt nf na lv nm vw tk ta tb tc tw fk fa fb od sd aa am vl ho) := by
  rcases (show k = 0 ∨ k = 1 ∨ k = 2 ∨ k = 3 ∨ k = 4 ∨ k = 5 ∨ k = 6 by omega) with rfl | rfl | rfl | rfl | rfl | rfl | rfl
  · exact c_M_count_0 l D ma cI cZ th nv nb nt nf na lv nm vw tk ta tb tc tw fk fa fb od sd aa am vl ho hok
  · exact c_M_count_1 l D ma cI cZ th nv nb nt nf na lv nm vw tk ta tb tc tw fk fa fb od sd aa am vl ho hok
  · exact c_M_count_2 l D ma cI cZ th nv nb nt nf na lv nm vw tk ta tb tc tw fk fa fb od sd aa am vl ho hok
  · exact c_M_count_3 l D ma cI cZ th nv nb nt nf na lv nm vw tk ta tb tc tw fk fa fb od sd aa am vl ho hok
  · exact c_M_count_4 l D ma cI cZ th nv nb nt nf na lv nm vw tk ta tb tc tw fk fa fb od sd aa am vl ho hok
  · exact c_M_count_5 l D ma cI cZ th nv nb nt nf na lv nm vw tk ta tb tc tw fk fa fb od sd aa am vl ho hok
  · exact c_M_count_6 l D ma cI cZ th nv nb nt nf na lv nm vw tk ta tb tc tw fk fa fb od sd aa am vl ho hok
