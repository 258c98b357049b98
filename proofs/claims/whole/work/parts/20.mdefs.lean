/-! the reference's world and its functions -/
abbrev mW (ma : Nat → Nat) (cI cZ : ClassId) (th nv nb nt nf na lv nm : Nat) (vw tk ta : Nat → Nat) (tb tc : Nat → Int32) (tw fk fa : Nat → Nat) (fb : Nat → Int32) (od sd aa am vl : Nat → Nat) (ho : Nat → Bool) : va_W :=
  [(ma 0, .inr (3, [.int (nI th), .ref (ma 1), .int (nI nv), .int (nI nb), .ref (ma 2), .ref (ma 3), .ref (ma 4), .ref (ma 5), .ref (ma 6), .int (nI nt), .ref (ma 7), .ref (ma 8), .ref (ma 9), .int (nI nf), .ref (ma 10), .ref (ma 11), .ref (ma 12), .int (nI na), .int (nI lv), .ref (ma 13), .int (nI nm), .ref (ma 14), .ref (ma 15)])),
   (ma 1, .inl (cI, 6, .inl (fun j => nI (vw j)))), (ma 2, .inl (cI, 50, .inl (fun j => nI (tk j)))), (ma 3, .inl (cI, 50, .inl (fun j => nI (ta j)))), (ma 4, .inl (cI, 50, .inl tb)), (ma 5, .inl (cI, 50, .inl tc)), (ma 6, .inl (cI, 50, .inl (fun j => nI (tw j)))),
   (ma 7, .inl (cI, 50, .inl (fun j => nI (fk j)))), (ma 8, .inl (cI, 50, .inl (fun j => nI (fa j)))), (ma 9, .inl (cI, 50, .inl fb)), (ma 10, .inl (cI, 100, .inl (fun j => nI (od j)))), (ma 11, .inl (cI, 30, .inl (fun j => nI (sd j)))), (ma 12, .inl (cI, 30, .inl (fun j => nI (aa j)))), (ma 13, .inl (cI, 8, .inl (fun j => nI (am j)))), (ma 14, .inl (cI, 50, .inl (fun j => nI (vl j)))), (ma 15, .inl (cZ, 50, .inl (fun j => bI (ho j))))]
def updB (f : Nat → Bool) (k : Nat) (x : Bool) : Nat → Bool := fun j => if j = k then x else f j
theorem updB_I (f : Nat → Bool) (k : Nat) (x : Bool) : upd (fun j => bI (f j)) k (vp_nar .boolean (bI x)) = fun j => bI (updB f k x j) := by
  have e : vp_nar .boolean (bI x) = bI x := by cases x <;> decide +kernel
  rw [e]
  funext j
  unfold upd updB
  by_cases h : j = k
  · rw [if_pos h, if_pos h]
  · rw [if_neg h, if_neg h]
section NZ
variable {p : Program} {l : Launch} {e : Env} {R : Room} {s : State} {m : MethodId} {args : Array Value} {below : List Frame} {meth : Method} {c : Code} {H : Heap} {locs : List Loc} {cells slots : Nat} {Q : State → Prop}
variable {cc : ByteArray} {pc : Nat} {ls : Array Slot} {rest : List Value} {D : va_G} {cl : List vw_C} {A : Nat → Prop} {a : Nat} {tys : List (ClassId × FieldType)} {ws : va_W} {H0 : Heap}
theorem n_zald (hx : p.tables.exec = Jvm.exec) (hb : c.code = cc) (hK : va_K D cl tys s) (hP : va_P D cl ws H) (q0 t0 : Nat) {cA : ClassId} {n : Nat} {f : Nat → Int32} (ha : ws[q0]? = some (a, .inl (cA, n, .inl f))) (ht : tys[t0]? = some (cA, .boolean)) {i : Nat} (hi : i < n) (hn : n < 2 ^ 31) (hdg : decode cc pc = .ok (.baload, 1))
    (kk : W p l e R s m args below meth c H locs cells slots Q (F0 m (pc + 1) ls (.int (f i) :: rest))) : W p l e R s m args below meth c H locs cells slots Q (F0 m pc ls (.int (nI i) :: .ref a :: rest)) :=
  va_zald hx hb hK hP q0 t0 ha ht (vp_in_nI hi hn) hdg (by rw [nI_clamp (by omega)]; exact kk)
theorem n_zast (hx : p.tables.exec = Jvm.exec) (hb : c.code = cc) (hK : va_K D cl tys s) (hP : va_P D cl ws H) (hD : va_D A ws) (hS : va_S A H0 H locs) (q0 t0 : Nat) {cA : ClassId} {n : Nat} {f f' : Nat → Int32} (ha : ws[q0]? = some (a, .inl (cA, n, .inl f))) (ht : tys[t0]? = some (cA, .boolean)) {i : Nat} {x : Int32} (hi : i < n) (hn : n < 2 ^ 31) (hf : upd f i (vp_nar .boolean x) = f') (hdg : decode cc pc = .ok (.bastore, 1))
    {ws' : va_W} (hw : ws.set q0 (a, .inl (cA, n, .inl f')) = ws')
    (kk : ∀ (H1 : Heap) (locs1 : List Loc), va_P D cl ws' H1 → va_D A ws' → va_S A H0 H1 locs1 → W p l e R s m args below meth c H1 locs1 cells slots Q (F0 m (pc + 1) ls rest)) : W p l e R s m args below meth c H locs cells slots Q (F0 m pc ls (.int x :: .int (nI i) :: .ref a :: rest)) := by
  subst hf; subst hw
  refine va_zast hx hb hK hP hD hS q0 t0 ha ht (vp_in_nI hi hn) hdg (fun H1 locs1 h1 h2 h3 => kk H1 locs1 ?_ ?_ h3)
  · rw [nI_clamp (by omega)] at h1; exact h1
  · rw [nI_clamp (by omega)] at h2; exact h2
end NZ
def inI (v lo hi : Int32) : Bool := decide (lo.toInt ≤ v.toInt ∧ v.toInt ≤ hi.toInt)
theorem m1_toInt {n : Nat} (h : n < 2 ^ 30) : (nI n - nI 1).toInt = (n : Int) - 1 := pk_sub_toInt h (by decide)
theorem inI_has {x : Int32} {n : Nat} (h : n < 2 ^ 30) : inI x (nI 0) (nI n - nI 1) = hasB x n := by
  unfold inI hasB
  rw [m1_toInt h, nI_toInt (by decide)]
  by_cases q : 0 ≤ x.toInt ∧ x.toInt < (n : Int)
  · rw [decide_eq_true q, decide_eq_true ⟨by omega, by omega⟩]
  · rw [decide_eq_false q, decide_eq_false (by omega)]
theorem inI_wd {x : Int32} : inI x (nI 1) (nI 4) = wdB x := by
  unfold inI wdB
  rw [nI_toInt (by decide), nI_toInt (by decide)]
  rfl
theorem inI_N {x : Int32} {a b : Nat} (ha : a < 2 ^ 31) (hb : b < 2 ^ 31) : inI x (nI a) (nI b) = decide ((a : Int) ≤ x.toInt ∧ x.toInt ≤ (b : Int)) := by
  unfold inI
  rw [nI_toInt ha, nI_toInt hb]
def alB (nt : Nat) (tw : Nat → Nat) (x y : Int32) : Bool := decide (0 < cW nt tw x y)
theorem alB_f1 {nt : Nat} {tw : Nat → Nat} {x y : Int32} (h : hasB x nt = false) : alB nt tw x y = false := by
  unfold alB cW
  rw [tW_no h]
  split <;> rfl
theorem alB_f2 {nt : Nat} {tw : Nat → Nat} {x y : Int32} (h : hasB y nt = false) : alB nt tw x y = false := by
  unfold alB cW
  rw [tW_no h]
  split
  · rename_i q; rw [q]; rfl
  · rfl
theorem alB_I {nt i j : Nat} {tw : Nat → Nat} (hi : i < nt) (hj : j < nt) (hn : nt < 2 ^ 31) (h1 : 1 ≤ tw i) : alB nt tw (nI i) (nI j) = decide (tw i = tw j) := by
  unfold alB cW
  rw [tW_I hi hn, tW_I hj hn]
  by_cases h : tw i = tw j
  · rw [if_pos h, decide_eq_true h, decide_eq_true (by omega)]
  · rw [if_neg h, decide_eq_false h]; rfl
theorem alB_cW {nt : Nat} {tw : Nat → Nat} {x y : Int32} (h : alB nt tw x y = true) : cW nt tw x y = tW nt tw x ∧ hasB x nt = true ∧ hasB y nt = true := by
  have h1 : 0 < cW nt tw x y := of_decide_eq_true h
  refine ⟨?_, ?_, ?_⟩
  · unfold cW at h1 ⊢
    split
    · rfl
    · rename_i q; rw [if_neg q] at h1; omega
  · cases hb : hasB x nt with
    | true => rfl
    | false => rw [alB_f1 hb] at h; cases h
  · cases hb : hasB y nt with
    | true => rfl
    | false => rw [alB_f2 hb] at h; cases h
theorem alB_no {nt : Nat} {tw : Nat → Nat} {x y : Int32} (h : alB nt tw x y = false) : cW nt tw x y = 0 := by
  have h1 : ¬ 0 < cW nt tw x y := of_decide_eq_false h
  omega
def sgI (v w : Nat) : Int32 := if 2 ^ (w - 1) ≤ v then nI v - nI (2 ^ w) else nI v
def sW (f : Nat → Nat) (lo : Nat) : Nat → Nat
  | 0 => 0
  | k + 1 => sW f lo k + f (lo + k)
theorem sW_le {f : Nat → Nat} {lo hi : Nat} (h : ∀ j, j < hi → f j ≤ 4) : ∀ k, lo + k ≤ hi → sW f lo k ≤ 4 * k := by
  intro k
  induction k with
  | zero => intro _; exact Nat.le_refl _
  | succ k ih =>
    intro hk
    have h1 := ih (by omega)
    have h2 := h (lo + k) (by omega)
    show sW f lo k + f (lo + k) ≤ _
    omega
def gvN (nv : Nat) (vw : Nat → Nat) (n v : Nat) : Nat := n / 2 ^ sW vw (v + 1) (nv - (v + 1)) &&& 2 ^ vw v - 1
def rawI (k a b c : Nat) (gv vl : Nat → Nat) (ho : Nat → Bool) (tw : Nat → Nat) : Int32 := match k with
  | 0 => nI a
  | 1 => nI (gv a)
  | 2 => nI (vl a + vl b)
  | 3 => nI (vl a) - nI (vl b)
  | 4 => nI (vl a * vl b)
  | 5 => nI (vl a &&& vl b)
  | 6 => nI (vl a ||| vl b)
  | 7 => nI (vl a) ^^^ nI (vl b)
  | 8 => (-1) - nI (vl a)
  | 9 => nI (vl a) <<< (nI b &&& 31)
  | 10 => nI (vl a / 2 ^ b)
  | 11 => sgI (vl a) (tw a) >>> (nI b &&& 31)
  | 12 => nI (if ho a = true then vl b else vl c)
  | 13 => nI (vl a) + (nI (vl b) <<< (nI (tw a) &&& 31))
  | _ => nI (vl a / 2 ^ b)
def truB (k a b : Nat) (vl : Nat → Nat) (ho : Nat → Bool) (tw : Nat → Nat) : Bool := match k with
  | 0 => decide (vl a = vl b)
  | 1 => decide (vl a < vl b)
  | 2 => decide (vl a ≤ vl b)
  | 3 => decide ((sgI (vl a) (tw a)).toInt < (sgI (vl b) (tw b)).toInt)
  | 4 => decide ((sgI (vl a) (tw a)).toInt ≤ (sgI (vl b) (tw b)).toInt)
  | 5 => decide (vl a / 2 ^ b % 2 = 1)
  | 6 => !ho a
  | 7 => ho a && ho b
  | 8 => ho a || ho b
  | 9 => ho a ^^ ho b
  | _ => !ho a || ho b
def nB (x : Int32) : Nat := x.toInt.toNat
theorem nB_I {j : Nat} (h : j < 2 ^ 31) : nB (nI j) = j := by
  unfold nB
  rw [nI_toInt h]
  rfl
def okT (nv nt nf k a : Nat) (b c : Int32) : Prop := (k = 0 ∧ a < 2 ^ 31) ∨ (k = 1 ∧ a < nv) ∨ ((2 ≤ k ∧ k ≤ 7 ∨ k = 13) ∧ a < nt ∧ ∃ j, j < nt ∧ b = nI j) ∨ (k = 8 ∧ a < nt) ∨ ((9 ≤ k ∧ k ≤ 11 ∨ k = 14) ∧ a < nt ∧ ∃ j, j ≤ 4 ∧ b = nI j) ∨ (k = 12 ∧ a < nf ∧ (∃ j, j < nt ∧ b = nI j) ∧ ∃ j, j < nt ∧ c = nI j)
def okF (nt nf k a : Nat) (b : Int32) : Prop := (k ≤ 4 ∧ a < nt ∧ ∃ j, j < nt ∧ b = nI j) ∨ (k = 5 ∧ a < nt ∧ ∃ j, j < 4 ∧ b = nI j) ∨ (k = 6 ∧ a < nf) ∨ (7 ≤ k ∧ k ≤ 10 ∧ a < nf ∧ ∃ j, j < nf ∧ b = nI j)
def Mok (nv nb nt nf na lv nm : Nat) (vw tk ta : Nat → Nat) (tb tc : Nat → Int32) (tw fk fa : Nat → Nat) (fb : Nat → Int32) (od sd am vl : Nat → Nat) : Prop :=
  nv ≤ 6 ∧ nb ≤ 10 ∧ nt ≤ 50 ∧ nf ≤ 50 ∧ na ≤ 30 ∧ lv ≤ 5 ∧ nm ≤ 8 ∧ (∀ j, j < nv → 1 ≤ vw j ∧ vw j ≤ 4) ∧ (∀ j, j < nt → 1 ≤ tw j ∧ tw j ≤ 4) ∧ (∀ j, j < nm → am j < nf) ∧ (∀ j, j < na → sd j < nf) ∧ (∀ t, t < nt → okT nv nt nf (tk t) (ta t) (tb t) (tc t)) ∧ (∀ f, f < nf → okF nt nf (fk f) (fa f) (fb f)) ∧ (∀ k, k < nt + nf → od k < nt ∨ (100 ≤ od k ∧ od k < 100 + nf)) ∧ ∀ j, vl j < 16
theorem Mok_vl {nv nb nt nf na lv nm : Nat} {vw tk ta : Nat → Nat} {tb tc : Nat → Int32} {tw fk fa : Nat → Nat} {fb : Nat → Int32} {od sd am vl vl' : Nat → Nat} (h : Mok nv nb nt nf na lv nm vw tk ta tb tc tw fk fa fb od sd am vl) (hv : ∀ j, vl' j < 16) : Mok nv nb nt nf na lv nm vw tk ta tb tc tw fk fa fb od sd am vl' := by
  obtain ⟨a1, a2, a3, a4, a5, a6, a7, a8, a9, a10, a11, a12, a13, a14, -⟩ := h
  exact ⟨a1, a2, a3, a4, a5, a6, a7, a8, a9, a10, a11, a12, a13, a14, hv⟩
abbrev Qs : Type := (Nat → Nat) × (Nat → Bool)
def mStp (nv : Nat) (vw tk ta : Nat → Nat) (tb tc : Nat → Int32) (tw fk fa : Nat → Nat) (fb : Nat → Int32) (od : Nat → Nat) (n k : Nat) (q : Qs) : Qs :=
  if od k < 100 then (updN q.1 (od k) ((rawI (tk (od k)) (ta (od k)) (nB (tb (od k))) (nB (tc (od k))) (gvN nv vw n) q.1 q.2 tw).toBitVec.toNat % 2 ^ tw (od k)), q.2)
  else (q.1, updB q.2 (od k - 100) (truB (fk (od k - 100)) (fa (od k - 100)) (nB (fb (od k - 100))) q.1 q.2 tw))
def mSt (nv : Nat) (vw tk ta : Nat → Nat) (tb tc : Nat → Int32) (tw fk fa : Nat → Nat) (fb : Nat → Int32) (od : Nat → Nat) (n : Nat) : Nat → Qs → Qs
  | 0, q => q
  | k + 1, q => mStp nv vw tk ta tb tc tw fk fa fb od n k (mSt nv vw tk ta tb tc tw fk fa fb od n k q)
def mOk (sd am : Nat → Nat) (na nm S : Nat) (ho : Nat → Bool) : Bool := (List.range na).all (fun i => ho (sd i)) && (List.range nm).all (fun i => decide (S / 2 ^ i % 2 = 0) || ho (am i))
theorem allR {N : Nat} {P : Nat → Bool} : (List.range N).all P = true ↔ ∀ i, i < N → P i = true := by
  rw [List.all_eq_true]
  exact ⟨fun h i hi => h i (List.mem_range.mpr hi), fun h i hi => h i (List.mem_range.mp hi)⟩
theorem mOk_iff {sd am : Nat → Nat} {na nm S : Nat} {ho : Nat → Bool} : mOk sd am na nm S ho = true ↔ (∀ i, i < na → ho (sd i) = true) ∧ (∀ i, i < nm → ¬ S / 2 ^ i % 2 = 0 → ho (am i) = true) := by
  unfold mOk
  rw [Bool.and_eq_true, allR, allR]
  refine and_congr Iff.rfl ⟨fun h i hi hs => ?_, fun h i hi => ?_⟩
  · have h1 := h i hi
    rw [Bool.or_eq_true] at h1
    rcases h1 with h1 | h1
    · exact absurd (of_decide_eq_true h1) hs
    · exact h1
  · rw [Bool.or_eq_true]
    by_cases hs : S / 2 ^ i % 2 = 0
    · exact Or.inl (decide_eq_true hs)
    · exact Or.inr (h i hi hs)
def nxF (ev : Nat → Qs → Qs) (ok : (Nat → Bool) → Bool) : Nat → Nat → Qs → Option Nat × Qs
  | 0, _, q => (none, q)
  | k + 1, n, q => if ok (ev n q).2 = true then (some n, ev n q) else nxF ev ok k (n + 1) (ev n q)
def mF (ev : Nat → Qs → Qs) (n0 : Nat) : Nat → Qs → Qs
  | 0, q => q
  | i + 1, q => ev (n0 + i) (mF ev n0 i q)
def nxA : Option Nat → Int32
  | none => -1
  | some n => nI n
theorem nxF_in (ev : Nat → Qs → Qs) (ok : (Nat → Bool) → Bool) : ∀ k n q m, (nxF ev ok k n q).1 = some m → n ≤ m ∧ m < n + k := by
  intro k
  induction k with
  | zero => intro n q m h; cases h
  | succ k ih =>
    intro n q m h
    unfold nxF at h
    split at h
    · cases h; omega
    · have := ih _ _ _ h
      omega
theorem nxA_lt {o : Option Nat} (h : ∀ m, o = some m → m < 2 ^ 31) (hl : (nxA o).toInt < 0) : o = none := by
  cases o with
  | none => rfl
  | some n =>
    have h2 : (nI n).toInt < 0 := hl
    rw [nI_toInt (h n rfl)] at h2
    omega
theorem nxA_ge {o : Option Nat} (hl : 0 ≤ (nxA o).toInt) : ∃ n, o = some n := by
  cases o with
  | none => exact absurd hl (by decide +kernel)
  | some n => exact ⟨n, rfl⟩
def itS {α : Type} (nx : Nat → Qs → Option Nat × Qs) (up : Nat → Qs → α → α) (r0 : Option Nat × Qs) (a0 : α) : Nat → (Option Nat × Qs) × α
  | 0 => (r0, a0)
  | i + 1 => match (itS nx up r0 a0 i).1.1 with
    | none => itS nx up r0 a0 i
    | some n => (nx (n + 1) (itS nx up r0 a0 i).1.2, up n (itS nx up r0 a0 i).1.2 (itS nx up r0 a0 i).2)
theorem itS_none {α : Type} {nx : Nat → Qs → Option Nat × Qs} {up : Nat → Qs → α → α} {r0 : Option Nat × Qs} {a0 : α} {i : Nat} (h : (itS nx up r0 a0 i).1.1 = none) : itS nx up r0 a0 (i + 1) = itS nx up r0 a0 i := by
  show (match (itS nx up r0 a0 i).1.1 with | none => itS nx up r0 a0 i | some n => (nx (n + 1) (itS nx up r0 a0 i).1.2, up n (itS nx up r0 a0 i).1.2 (itS nx up r0 a0 i).2)) = _
  rw [h]
theorem itS_some {α : Type} {nx : Nat → Qs → Option Nat × Qs} {up : Nat → Qs → α → α} {r0 : Option Nat × Qs} {a0 : α} {i n : Nat} (h : (itS nx up r0 a0 i).1.1 = some n) : itS nx up r0 a0 (i + 1) = (nx (n + 1) (itS nx up r0 a0 i).1.2, up n (itS nx up r0 a0 i).1.2 (itS nx up r0 a0 i).2) := by
  show (match (itS nx up r0 a0 i).1.1 with | none => itS nx up r0 a0 i | some n => (nx (n + 1) (itS nx up r0 a0 i).1.2, up n (itS nx up r0 a0 i).1.2 (itS nx up r0 a0 i).2)) = _
  rw [h]
theorem itS_stop {α : Type} {nx : Nat → Qs → Option Nat × Qs} {up : Nat → Qs → α → α} {r0 : Option Nat × Qs} {a0 : α} {i : Nat} (h : (itS nx up r0 a0 i).1.1 = none) : ∀ j, itS nx up r0 a0 (i + j) = itS nx up r0 a0 i := by
  intro j
  induction j with
  | zero => rfl
  | succ j ih =>
    rw [show i + (j + 1) = (i + j) + 1 by omega, itS_none (by rw [ih]; exact h), ih]
theorem itS_ge {α : Type} {nx : Nat → Qs → Option Nat × Qs} {up : Nat → Qs → α → α} {r0 : Option Nat × Qs} {a0 : α} (hnx : ∀ m q n, (nx m q).1 = some n → m ≤ n) : ∀ i n, (itS nx up r0 a0 i).1.1 = some n → i ≤ n := by
  intro i
  induction i with
  | zero => intro n _; omega
  | succ i ih =>
    intro n h
    cases hi : (itS nx up r0 a0 i).1.1 with
    | none => rw [itS_none hi, hi] at h; cases h
    | some m =>
      rw [itS_some hi] at h
      have h1 := hnx _ _ _ h
      have h2 := ih m hi
      omega
section NBo
variable {p : Program} {l : Launch} {e : Env} {R : Room} {s : State} {m : MethodId} {args : Array Value} {below : List Frame} {meth : Method} {c : Code} {H : Heap} {locs : List Loc} {cells slots : Nat} {Q : State → Prop}
variable {cc : ByteArray} {pc : Nat} {ls : Array Slot} {rest : List Value}
theorem n_bor (hx : p.tables.exec = Jvm.exec) (hb : c.code = cc) {x y : Bool} (hdg : decode cc pc = .ok (.ior, 1)) (k : W p l e R s m args below meth c H locs cells slots Q (F0 m (pc + 1) ls (.int (bI (x || y)) :: rest))) : W p l e R s m args below meth c H locs cells slots Q (F0 m pc ls (.int (bI y) :: .int (bI x) :: rest)) :=
  lv_ior hx hb hdg (by rw [show bI x ||| bI y = bI (x || y) by cases x <;> cases y <;> decide +kernel]; exact k)
theorem n_bor0 (hx : p.tables.exec = Jvm.exec) (hb : c.code = cc) {x y : Bool} (h : y = true) (hdg : decode cc pc = .ok (.ior, 1)) (k : W p l e R s m args below meth c H locs cells slots Q (F0 m (pc + 1) ls (.int (bI (x || !y)) :: rest))) : W p l e R s m args below meth c H locs cells slots Q (F0 m pc ls (.int (nI 0) :: .int (bI x) :: rest)) := by
  subst h
  exact lv_ior hx hb hdg (by rw [show bI x ||| nI 0 = bI (x || !true) by cases x <;> decide +kernel]; exact k)
theorem n_bor1 (hx : p.tables.exec = Jvm.exec) (hb : c.code = cc) {x y : Bool} (h : y = false) (hdg : decode cc pc = .ok (.ior, 1)) (k : W p l e R s m args below meth c H locs cells slots Q (F0 m (pc + 1) ls (.int (bI (x || !y)) :: rest))) : W p l e R s m args below meth c H locs cells slots Q (F0 m pc ls (.int (nI 1) :: .int (bI x) :: rest)) := by
  subst h
  exact lv_ior hx hb hdg (by rw [show bI x ||| nI 1 = bI (x || !false) by cases x <;> decide +kernel]; exact k)
end NBo
theorem n_mask (x : Int32) {k : Nat} (hk : k ≤ 30) : x &&& nI (2 ^ k - 1) = nI (x.toBitVec.toNat % 2 ^ k) := by
  refine pk_and x k (pk_tn ?_)
  have h : 2 ^ k ≤ 2 ^ 30 := Nat.pow_le_pow_right (by decide) hk
  omega
theorem mSt_lt {nv nb nt nf na lv nm : Nat} {vw tk ta : Nat → Nat} {tb tc : Nat → Int32} {tw fk fa : Nat → Nat} {fb : Nat → Int32} {od sd am vl : Nat → Nat} (h : Mok nv nb nt nf na lv nm vw tk ta tb tc tw fk fa fb od sd am vl) (n : Nat) (q : Qs) (hq : ∀ j, q.1 j < 16) : ∀ k, k ≤ nt + nf → ∀ j, (mSt nv vw tk ta tb tc tw fk fa fb od n k q).1 j < 16 := by
  obtain ⟨a1, a2, a3, a4, a5, a6, a7, a8, a9, a10, a11, a12, a13, a14, -⟩ := h
  intro k
  induction k with
  | zero => intro _ j; exact hq j
  | succ k ih =>
    intro hk j
    have h1 := ih (by omega)
    show (mStp nv vw tk ta tb tc tw fk fa fb od n k _).1 j < 16
    unfold mStp
    split
    · rename_i ho
      have h2 := a14 k (by omega)
      have h3 := (a9 (od k) (by omega)).2
      show updN _ _ _ j < 16
      unfold updN
      split
      · have h4 : 2 ^ tw (od k) ≤ 2 ^ 4 := Nat.pow_le_pow_right (by decide) h3
        have h5 := Nat.mod_lt (rawI (tk (od k)) (ta (od k)) (nB (tb (od k))) (nB (tc (od k))) (gvN nv vw n) (mSt nv vw tk ta tb tc tw fk fa fb od n k q).1 (mSt nv vw tk ta tb tc tw fk fa fb od n k q).2 tw).toBitVec.toNat (show 0 < 2 ^ tw (od k) from Nat.two_pow_pos _)
        omega
      · exact h1 j
    · exact h1 j
def mEv (nv nt nf : Nat) (vw tk ta : Nat → Nat) (tb tc : Nat → Int32) (tw fk fa : Nat → Nat) (fb : Nat → Int32) (od : Nat → Nat) (n : Nat) (q : Qs) : Qs := mSt nv vw tk ta tb tc tw fk fa fb od n (nt + nf) q
theorem mF_lt {nv nb nt nf na lv nm : Nat} {vw tk ta : Nat → Nat} {tb tc : Nat → Int32} {tw fk fa : Nat → Nat} {fb : Nat → Int32} {od sd am vl : Nat → Nat} (h : Mok nv nb nt nf na lv nm vw tk ta tb tc tw fk fa fb od sd am vl) (n0 : Nat) (q : Qs) (hq : ∀ j, q.1 j < 16) : ∀ i j, (mF (mEv nv nt nf vw tk ta tb tc tw fk fa fb od) n0 i q).1 j < 16 := by
  intro i
  induction i with
  | zero => exact hq
  | succ i ih => exact mSt_lt h (n0 + i) _ ih (nt + nf) (Nat.le_refl _)
theorem nxF_lt {nv nb nt nf na lv nm : Nat} {vw tk ta : Nat → Nat} {tb tc : Nat → Int32} {tw fk fa : Nat → Nat} {fb : Nat → Int32} {od sd am vl : Nat → Nat} (h : Mok nv nb nt nf na lv nm vw tk ta tb tc tw fk fa fb od sd am vl) (ok : (Nat → Bool) → Bool) : ∀ k n (q : Qs), (∀ j, q.1 j < 16) → ∀ j, (nxF (mEv nv nt nf vw tk ta tb tc tw fk fa fb od) ok k n q).2.1 j < 16 := by
  intro k
  induction k with
  | zero => intro n q hq; exact hq
  | succ k ih =>
    intro n q hq
    have h1 : ∀ j, (mEv nv nt nf vw tk ta tb tc tw fk fa fb od n q).1 j < 16 := mSt_lt h n q hq (nt + nf) (Nat.le_refl _)
    unfold nxF
    split
    · exact h1
    · exact ih _ _ h1
theorem itS_lt {α : Type} {nv nb nt nf na lv nm : Nat} {vw tk ta : Nat → Nat} {tb tc : Nat → Int32} {tw fk fa : Nat → Nat} {fb : Nat → Int32} {od sd am vl : Nat → Nat} (h : Mok nv nb nt nf na lv nm vw tk ta tb tc tw fk fa fb od sd am vl) {ok : (Nat → Bool) → Bool} {up : Nat → Qs → α → α} {r0 : Option Nat × Qs} {a0 : α} (h0 : ∀ j, r0.2.1 j < 16) : ∀ i j, (itS (fun m q => nxF (mEv nv nt nf vw tk ta tb tc tw fk fa fb od) ok (2 ^ nb - m) m q) up r0 a0 i).1.2.1 j < 16 := by
  intro i
  induction i with
  | zero => exact h0
  | succ i ih =>
    cases hi : (itS (fun m q => nxF (mEv nv nt nf vw tk ta tb tc tw fk fa fb od) ok (2 ^ nb - m) m q) up r0 a0 i).1.1 with
    | none => rw [itS_none hi]; exact ih
    | some n => rw [itS_some hi]; exact nxF_lt h ok _ _ _ ih
def mbl (ev : Nat → Qs → Qs) (okS : Nat → (Nat → Bool) → Bool) (N : Nat) : Nat → Qs × Nat → Qs × Nat
  | 0, q => q
  | k + 1, q => ((nxF ev (okS (clrB (mbl ev okS N k q).2 k)) N 0 (mbl ev okS N k q).1).2, if (nxF ev (okS (clrB (mbl ev okS N k q).2 k)) N 0 (mbl ev okS N k q).1).1 = none then clrB (mbl ev okS N k q).2 k else (mbl ev okS N k q).2)
theorem mbl_le (ev : Nat → Qs → Qs) (okS : Nat → (Nat → Bool) → Bool) (N : Nat) (q : Qs × Nat) : ∀ k, (mbl ev okS N k q).2 ≤ q.2 := by
  intro k
  induction k with
  | zero => exact Nat.le_refl _
  | succ k ih =>
    show (if _ then _ else _) ≤ _
    split
    · exact Nat.le_trans (clrB_le _ _) ih
    · exact ih
theorem mbl_lt {nv nb nt nf na lv nm : Nat} {vw tk ta : Nat → Nat} {tb tc : Nat → Int32} {tw fk fa : Nat → Nat} {fb : Nat → Int32} {od sd am vl : Nat → Nat} (h : Mok nv nb nt nf na lv nm vw tk ta tb tc tw fk fa fb od sd am vl) (okS : Nat → (Nat → Bool) → Bool) (N : Nat) (q : Qs × Nat) (hq : ∀ j, q.1.1 j < 16) : ∀ k j, (mbl (mEv nv nt nf vw tk ta tb tc tw fk fa fb od) okS N k q).1.1 j < 16 := by
  intro k
  induction k with
  | zero => exact hq
  | succ k ih => exact nxF_lt h _ _ _ _ ih
theorem pF_lo {nt nf : Nat} {tw : Nat → Nat} {kd ka kb : Int32} (h0 : 0 ≤ kd.toInt) (h4 : kd.toInt ≤ 4) : pF nt nf tw kd ka kb = alB nt tw ka kb := by
  unfold pF
  rw [if_pos ⟨h0, by omega⟩]
  obtain ⟨j, hj, e⟩ : ∃ j : Nat, j < 5 ∧ kd.toInt.toNat = j := ⟨_, by omega, rfl⟩
  rw [e]
  rcases (show j = 0 ∨ j = 1 ∨ j = 2 ∨ j = 3 ∨ j = 4 by omega) with rfl | rfl | rfl | rfl | rfl <;> rfl
theorem pF_5 {nt nf : Nat} {tw : Nat → Nat} {kd ka kb : Int32} (h : kd.toInt = 5) : pF nt nf tw kd ka kb = decide (0 ≤ kb.toInt ∧ kb.toInt < (tW nt tw ka : Int)) := by
  unfold pF
  rw [if_pos ⟨by omega, by omega⟩, h]
  rfl
theorem pF_6 {nt nf : Nat} {tw : Nat → Nat} {kd ka kb : Int32} (h : kd.toInt = 6) : pF nt nf tw kd ka kb = hasB ka nf := by
  unfold pF
  rw [if_pos ⟨by omega, by omega⟩, h]
  rfl
theorem pF_7 {nt nf : Nat} {tw : Nat → Nat} {kd ka kb : Int32} (h0 : 7 ≤ kd.toInt) (h4 : kd.toInt ≤ 10) : pF nt nf tw kd ka kb = (hasB ka nf && hasB kb nf) := by
  unfold pF
  rw [if_pos ⟨by omega, by omega⟩]
  obtain ⟨j, hj, e⟩ : ∃ j : Nat, (7 ≤ j ∧ j ≤ 10) ∧ kd.toInt.toNat = j := ⟨_, by omega, rfl⟩
  rw [e]
  rcases (show j = 7 ∨ j = 8 ∨ j = 9 ∨ j = 10 by omega) with rfl | rfl | rfl | rfl <;> rfl
theorem pF_no {nt nf : Nat} {tw : Nat → Nat} {kd ka kb : Int32} (h : kd.toInt < 0 ∨ 10 < kd.toInt) : pF nt nf tw kd ka kb = false := by
  unfold pF
  rw [if_neg (by omega)]
