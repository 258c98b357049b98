/-! the rows in the form of functions: numbers as nI n, answers as bI b, contracts as Fn -/
def bI (b : Bool) : Int32 := if b then 1 else 0
theorem bI_nar (b : Bool) : narrow .boolean (.int (bI b)) = .int (bI b) := by cases b <;> rfl
theorem bI_t : bI true = nI 1 := by decide +kernel
theorem bI_f : bI false = nI 0 := by decide +kernel
theorem bI_zero {b : Bool} (h : bI b = 0) : b = false := by cases b with
  | false => rfl
  | true => exact absurd h (by decide +kernel)
theorem bI_nzero {b : Bool} (h : ¬ bI b = 0) : b = true := by cases b with
  | true => rfl
  | false => exact absurd (by decide +kernel) h
theorem nI_zero {n : Nat} (hn : n < 2 ^ 31) (h : nI n = 0) : n = 0 := by
  rw [← nI_0] at h
  exact (nI_eq hn (by decide)).mp h
theorem z_le {x y : Int32} {X Y : Int} (hX : x.toInt = X) (hY : y.toInt = Y) : x ≤ y ↔ X ≤ Y := by
  rw [Int32.le_iff_toInt_le, hX, hY]
theorem z_lt {x y : Int32} {X Y : Int} (hX : x.toInt = X) (hY : y.toInt = Y) : x < y ↔ X < Y := by
  rw [Int32.lt_iff_toInt_lt, hX, hY]
theorem z_eq {x y : Int32} {X Y : Int} (hX : x.toInt = X) (hY : y.toInt = Y) : x = y ↔ X = Y := by
  rw [← hX, ← hY]
  exact Int32.toInt_inj.symm
theorem z_0 : (0 : Int32).toInt = 0 := by decide +kernel
theorem z_of {x : Int32} (h : 0 ≤ x.toInt) : x = nI x.toInt.toNat := by
  apply Int32.toInt_inj.mp
  have h2 : x.toInt < 2 ^ 31 := Int32.toInt_lt x
  rw [nI_toInt (by omega)]
  omega
theorem z_nat {x : Int32} {n : Nat} (h : 0 ≤ x.toInt) (h2 : x.toInt < (n : Int)) : ∃ j : Nat, j < n ∧ x = nI j := ⟨x.toInt.toNat, by omega, z_of h⟩
theorem n_shl_t : ∀ k, k < 31 → nI 1 <<< (nI k &&& 31) = nI (2 ^ k) := by decide +kernel
theorem n_amt : ∀ k, k < 32 → ((nI k &&& 31).toBitVec.smod 32).toNat = k := by decide +kernel
theorem n_shr_t {a k : Nat} (ha : a < 2 ^ 31) (hk : k < 32) : nI a >>> (nI k &&& 31) = nI (a / 2 ^ k) := pk_shrN ha _ k (n_amt k hk)
theorem n_and_t (a b : Nat) : nI a &&& nI b = nI (a &&& b) := by
  apply Int32.toBitVec_inj.mp
  show BitVec.ofNat 32 a &&& BitVec.ofNat 32 b = BitVec.ofNat 32 (a &&& b)
  exact BitVec.ofNat_and.symm
theorem n_or_t (a b : Nat) : nI a ||| nI b = nI (a ||| b) := by
  apply Int32.toBitVec_inj.mp
  show BitVec.ofNat 32 a ||| BitVec.ofNat 32 b = BitVec.ofNat 32 (a ||| b)
  exact BitVec.ofNat_or.symm
section NB
variable {p : Program} {l : Launch} {e : Env} {R : Room} {s : State} {m : MethodId} {args : Array Value} {below : List Frame} {meth : Method} {c : Code} {H : Heap} {locs : List Loc} {cells slots : Nat} {Q : State → Prop}
variable {cc : ByteArray} {pc : Nat} {ls : Array Slot} {rest : List Value} {D : va_G} {cl : List vw_C} {A : Nat → Prop} {a : Nat} {tys : List (ClassId × FieldType)} {ws : va_W} {H0 : Heap}
theorem n_add (hx : p.tables.exec = Jvm.exec) (hb : c.code = cc) {x y : Nat} (hdg : decode cc pc = .ok (.iadd, 1)) (k : W p l e R s m args below meth c H locs cells slots Q (F0 m (pc + 1) ls (.int (nI (x + y)) :: rest))) : W p l e R s m args below meth c H locs cells slots Q (F0 m pc ls (.int (nI y) :: .int (nI x) :: rest)) :=
  t_iadd hx hb hdg (nI_add x y) k
theorem n_sub (hx : p.tables.exec = Jvm.exec) (hb : c.code = cc) {x y : Nat} (h : y ≤ x) (hdg : decode cc pc = .ok (.isub, 1)) (k : W p l e R s m args below meth c H locs cells slots Q (F0 m (pc + 1) ls (.int (nI (x - y)) :: rest))) : W p l e R s m args below meth c H locs cells slots Q (F0 m pc ls (.int (nI y) :: .int (nI x) :: rest)) :=
  t_isub hx hb hdg (pk_sub h) k
theorem n_mul (hx : p.tables.exec = Jvm.exec) (hb : c.code = cc) {x y : Nat} (hdg : decode cc pc = .ok (.imul, 1)) (k : W p l e R s m args below meth c H locs cells slots Q (F0 m (pc + 1) ls (.int (nI (x * y)) :: rest))) : W p l e R s m args below meth c H locs cells slots Q (F0 m pc ls (.int (nI y) :: .int (nI x) :: rest)) :=
  t_imul hx hb hdg (pk_mul x y) k
theorem n_and (hx : p.tables.exec = Jvm.exec) (hb : c.code = cc) {x y : Nat} (hdg : decode cc pc = .ok (.iand, 1)) (k : W p l e R s m args below meth c H locs cells slots Q (F0 m (pc + 1) ls (.int (nI (x &&& y)) :: rest))) : W p l e R s m args below meth c H locs cells slots Q (F0 m pc ls (.int (nI y) :: .int (nI x) :: rest)) :=
  t_iand hx hb hdg (n_and_t x y) k
theorem n_or (hx : p.tables.exec = Jvm.exec) (hb : c.code = cc) {x y : Nat} (hdg : decode cc pc = .ok (.ior, 1)) (k : W p l e R s m args below meth c H locs cells slots Q (F0 m (pc + 1) ls (.int (nI (x ||| y)) :: rest))) : W p l e R s m args below meth c H locs cells slots Q (F0 m pc ls (.int (nI y) :: .int (nI x) :: rest)) :=
  lv_ior hx hb hdg (by rw [n_or_t]; exact k)
theorem n_shl1 (hx : p.tables.exec = Jvm.exec) (hb : c.code = cc) {y : Nat} (h : y < 31) (hdg : decode cc pc = .ok (.ishl, 1)) (k : W p l e R s m args below meth c H locs cells slots Q (F0 m (pc + 1) ls (.int (nI (2 ^ y)) :: rest))) : W p l e R s m args below meth c H locs cells slots Q (F0 m pc ls (.int (nI y) :: .int (nI 1) :: rest)) :=
  lv_ishl hx hb hdg (by rw [n_shl_t y h]; exact k)
theorem n_shr (hx : p.tables.exec = Jvm.exec) (hb : c.code = cc) {x y : Nat} (h0 : x < 2 ^ 31) (h : y < 32) (hdg : decode cc pc = .ok (.ishr, 1)) (k : W p l e R s m args below meth c H locs cells slots Q (F0 m (pc + 1) ls (.int (nI (x / 2 ^ y)) :: rest))) : W p l e R s m args below meth c H locs cells slots Q (F0 m pc ls (.int (nI y) :: .int (nI x) :: rest)) :=
  lv_ishr hx hb hdg (by rw [n_shr_t h0 h]; exact k)
theorem n_div (hx : p.tables.exec = Jvm.exec) (hb : c.code = cc) {x y : Nat} (h0 : x < 2 ^ 31) (h1 : 0 < y) (h : y < 2 ^ 31) (hdg : decode cc pc = .ok (.idiv, 1)) (k : W p l e R s m args below meth c H locs cells slots Q (F0 m (pc + 1) ls (.int (nI (x / y)) :: rest))) : W p l e R s m args below meth c H locs cells slots Q (F0 m pc ls (.int (nI y) :: .int (nI x) :: rest)) :=
  lv_idiv hx hb hdg (nI_ne0 h1 h) (by rw [pk_div h0 h1 h]; exact k)
theorem n_rem (hx : p.tables.exec = Jvm.exec) (hb : c.code = cc) {x y : Nat} (h0 : x < 2 ^ 31) (h1 : 0 < y) (h : y < 2 ^ 31) (hdg : decode cc pc = .ok (.irem, 1)) (k : W p l e R s m args below meth c H locs cells slots Q (F0 m (pc + 1) ls (.int (nI (x % y)) :: rest))) : W p l e R s m args below meth c H locs cells slots Q (F0 m pc ls (.int (nI y) :: .int (nI x) :: rest)) :=
  lv_irem hx hb hdg (nI_ne0 h1 h) (by rw [pk_rem h0 h1 h]; exact k)
theorem n_iald (hx : p.tables.exec = Jvm.exec) (hb : c.code = cc) (hK : va_K D cl tys s) (hP : va_P D cl ws H) (q0 t0 : Nat) {cA : ClassId} {n : Nat} {f : Nat → Int32} (ha : ws[q0]? = some (a, .inl (cA, n, .inl f))) (ht : tys[t0]? = some (cA, .int)) {i : Nat} (hi : i < n) (hn : n < 2 ^ 31) (hdg : decode cc pc = .ok (.iaload, 1))
    (kk : W p l e R s m args below meth c H locs cells slots Q (F0 m (pc + 1) ls (.int (f i) :: rest))) : W p l e R s m args below meth c H locs cells slots Q (F0 m pc ls (.int (nI i) :: .ref a :: rest)) :=
  va_iald hx hb hK hP q0 t0 ha ht (vp_in_nI hi hn) hdg (by rw [nI_clamp (by omega)]; exact kk)
theorem n_lald (hx : p.tables.exec = Jvm.exec) (hb : c.code = cc) (hK : va_K D cl tys s) (hP : va_P D cl ws H) (q0 t0 : Nat) {cA : ClassId} {n : Nat} {f : Nat → Int64} (ha : ws[q0]? = some (a, .inl (cA, n, .inr (.inl f)))) (ht : tys[t0]? = some (cA, .long)) {i : Nat} (hi : i < n) (hn : n < 2 ^ 31) (hdg : decode cc pc = .ok (.laload, 1))
    (kk : W p l e R s m args below meth c H locs cells slots Q (F0 m (pc + 1) ls (.long (f i) :: rest))) : W p l e R s m args below meth c H locs cells slots Q (F0 m pc ls (.int (nI i) :: .ref a :: rest)) :=
  va_lald hx hb hK hP q0 t0 ha ht (vp_in_nI hi hn) hdg (by rw [nI_clamp (by omega)]; exact kk)
theorem n_iast (hx : p.tables.exec = Jvm.exec) (hb : c.code = cc) (hK : va_K D cl tys s) (hP : va_P D cl ws H) (hD : va_D A ws) (hS : va_S A H0 H locs) (q0 t0 : Nat) {cA : ClassId} {n : Nat} {f f' : Nat → Int32} (ha : ws[q0]? = some (a, .inl (cA, n, .inl f))) (ht : tys[t0]? = some (cA, .int)) {i : Nat} {x : Int32} (hi : i < n) (hn : n < 2 ^ 31) (hf : upd f i x = f') (hdg : decode cc pc = .ok (.iastore, 1))
    {ws' : va_W} (hw : ws.set q0 (a, .inl (cA, n, .inl f')) = ws')
    (kk : ∀ (H1 : Heap) (locs1 : List Loc), va_P D cl ws' H1 → va_D A ws' → va_S A H0 H1 locs1 → W p l e R s m args below meth c H1 locs1 cells slots Q (F0 m (pc + 1) ls rest)) : W p l e R s m args below meth c H locs cells slots Q (F0 m pc ls (.int x :: .int (nI i) :: .ref a :: rest)) := by
  subst hf; subst hw
  refine va_iast hx hb hK hP hD hS q0 t0 ha ht (vp_in_nI hi hn) hdg (fun H1 locs1 h1 h2 h3 => kk H1 locs1 ?_ ?_ h3)
  · rw [nI_clamp (by omega)] at h1; exact h1
  · rw [nI_clamp (by omega)] at h2; exact h2
theorem n_last (hx : p.tables.exec = Jvm.exec) (hb : c.code = cc) (hK : va_K D cl tys s) (hP : va_P D cl ws H) (hD : va_D A ws) (hS : va_S A H0 H locs) (q0 t0 : Nat) {cA : ClassId} {n : Nat} {f f' : Nat → Int64} (ha : ws[q0]? = some (a, .inl (cA, n, .inr (.inl f)))) (ht : tys[t0]? = some (cA, .long)) {i : Nat} {x : Int64} (hi : i < n) (hn : n < 2 ^ 31) (hf : vp_updL f i x = f') (hdg : decode cc pc = .ok (.lastore, 1))
    {ws' : va_W} (hw : ws.set q0 (a, .inl (cA, n, .inr (.inl f'))) = ws')
    (kk : ∀ (H1 : Heap) (locs1 : List Loc), va_P D cl ws' H1 → va_D A ws' → va_S A H0 H1 locs1 → W p l e R s m args below meth c H1 locs1 cells slots Q (F0 m (pc + 1) ls rest)) : W p l e R s m args below meth c H locs cells slots Q (F0 m pc ls (.long x :: .int (nI i) :: .ref a :: rest)) := by
  subst hf; subst hw
  refine va_last hx hb hK hP hD hS q0 t0 ha ht (vp_in_nI hi hn) hdg (fun H1 locs1 h1 h2 h3 => kk H1 locs1 ?_ ?_ h3)
  · rw [nI_clamp (by omega)] at h1; exact h1
  · rw [nI_clamp (by omega)] at h2; exact h2
theorem z_icmp_ge (hx : p.tables.exec = Jvm.exec) (hb : c.code = cc) {x y : Int32} {X Y : Int} (hX : x.toInt = X) (hY : y.toInt = Y) {off : Int} {tgt : Nat} (hdg : decode cc pc = .ok (.if_icmp .ge off, 3)) (ht : (pc : Int) + off = (tgt : Int)) (kt : Y ≤ X → W p l e R s m args below meth c H locs cells slots Q (F0 m tgt ls rest)) (kf : X < Y → W p l e R s m args below meth c H locs cells slots Q (F0 m (pc + 3) ls rest)) : W p l e R s m args below meth c H locs cells slots Q (F0 m pc ls (.int y :: .int x :: rest)) :=
  lv_icmp_ge hx hb hdg ht (fun h => kt ((z_le hY hX).mp h)) (fun h => kf (Int.lt_of_not_ge (fun q => h ((z_le hY hX).mpr q))))
theorem z_icmp_lt (hx : p.tables.exec = Jvm.exec) (hb : c.code = cc) {x y : Int32} {X Y : Int} (hX : x.toInt = X) (hY : y.toInt = Y) {off : Int} {tgt : Nat} (hdg : decode cc pc = .ok (.if_icmp .lt off, 3)) (ht : (pc : Int) + off = (tgt : Int)) (kt : X < Y → W p l e R s m args below meth c H locs cells slots Q (F0 m tgt ls rest)) (kf : Y ≤ X → W p l e R s m args below meth c H locs cells slots Q (F0 m (pc + 3) ls rest)) : W p l e R s m args below meth c H locs cells slots Q (F0 m pc ls (.int y :: .int x :: rest)) :=
  lv_icmp_lt hx hb hdg ht (fun h => kt ((z_lt hX hY).mp h)) (fun h => kf (Int.le_of_not_gt (fun q => h ((z_lt hX hY).mpr q))))
theorem z_icmp_le (hx : p.tables.exec = Jvm.exec) (hb : c.code = cc) {x y : Int32} {X Y : Int} (hX : x.toInt = X) (hY : y.toInt = Y) {off : Int} {tgt : Nat} (hdg : decode cc pc = .ok (.if_icmp .le off, 3)) (ht : (pc : Int) + off = (tgt : Int)) (kt : X ≤ Y → W p l e R s m args below meth c H locs cells slots Q (F0 m tgt ls rest)) (kf : Y < X → W p l e R s m args below meth c H locs cells slots Q (F0 m (pc + 3) ls rest)) : W p l e R s m args below meth c H locs cells slots Q (F0 m pc ls (.int y :: .int x :: rest)) :=
  lv_icmp_le hx hb hdg ht (fun h => kt ((z_le hX hY).mp h)) (fun h => kf (Int.lt_of_not_ge (fun q => h ((z_le hX hY).mpr q))))
theorem z_icmp_gt (hx : p.tables.exec = Jvm.exec) (hb : c.code = cc) {x y : Int32} {X Y : Int} (hX : x.toInt = X) (hY : y.toInt = Y) {off : Int} {tgt : Nat} (hdg : decode cc pc = .ok (.if_icmp .gt off, 3)) (ht : (pc : Int) + off = (tgt : Int)) (kt : Y < X → W p l e R s m args below meth c H locs cells slots Q (F0 m tgt ls rest)) (kf : X ≤ Y → W p l e R s m args below meth c H locs cells slots Q (F0 m (pc + 3) ls rest)) : W p l e R s m args below meth c H locs cells slots Q (F0 m pc ls (.int y :: .int x :: rest)) :=
  lv_icmp_gt hx hb hdg ht (fun h => kt ((z_lt hY hX).mp h)) (fun h => kf (Int.le_of_not_gt (fun q => h ((z_lt hY hX).mpr q))))
theorem z_icmp_eq (hx : p.tables.exec = Jvm.exec) (hb : c.code = cc) {x y : Int32} {X Y : Int} (hX : x.toInt = X) (hY : y.toInt = Y) {off : Int} {tgt : Nat} (hdg : decode cc pc = .ok (.if_icmp .eq off, 3)) (ht : (pc : Int) + off = (tgt : Int)) (kt : X = Y → W p l e R s m args below meth c H locs cells slots Q (F0 m tgt ls rest)) (kf : ¬ X = Y → W p l e R s m args below meth c H locs cells slots Q (F0 m (pc + 3) ls rest)) : W p l e R s m args below meth c H locs cells slots Q (F0 m pc ls (.int y :: .int x :: rest)) :=
  lv_icmp_eq hx hb hdg ht (fun h => kt ((z_eq hX hY).mp h)) (fun h => kf (fun q => h ((z_eq hX hY).mpr q)))
theorem z_icmp_ne (hx : p.tables.exec = Jvm.exec) (hb : c.code = cc) {x y : Int32} {X Y : Int} (hX : x.toInt = X) (hY : y.toInt = Y) {off : Int} {tgt : Nat} (hdg : decode cc pc = .ok (.if_icmp .ne off, 3)) (ht : (pc : Int) + off = (tgt : Int)) (kt : ¬ X = Y → W p l e R s m args below meth c H locs cells slots Q (F0 m tgt ls rest)) (kf : X = Y → W p l e R s m args below meth c H locs cells slots Q (F0 m (pc + 3) ls rest)) : W p l e R s m args below meth c H locs cells slots Q (F0 m pc ls (.int y :: .int x :: rest)) :=
  lv_icmp_ne hx hb hdg ht (fun h => kt (fun q => h ((z_eq hX hY).mpr q))) (fun h => kf ((z_eq hX hY).mp h))
theorem z_if_lt (hx : p.tables.exec = Jvm.exec) (hb : c.code = cc) {x : Int32} {X : Int} (hX : x.toInt = X) {off : Int} {tgt : Nat} (hdg : decode cc pc = .ok (.ifCond .lt off, 3)) (ht : (pc : Int) + off = (tgt : Int)) (kt : X < 0 → W p l e R s m args below meth c H locs cells slots Q (F0 m tgt ls rest)) (kf : 0 ≤ X → W p l e R s m args below meth c H locs cells slots Q (F0 m (pc + 3) ls rest)) : W p l e R s m args below meth c H locs cells slots Q (F0 m pc ls (.int x :: rest)) :=
  lv_if_lt hx hb hdg ht (fun h => kt ((z_lt hX z_0).mp h)) (fun h => kf (Int.le_of_not_gt (fun q => h ((z_lt hX z_0).mpr q))))
theorem z_if_ge (hx : p.tables.exec = Jvm.exec) (hb : c.code = cc) {x : Int32} {X : Int} (hX : x.toInt = X) {off : Int} {tgt : Nat} (hdg : decode cc pc = .ok (.ifCond .ge off, 3)) (ht : (pc : Int) + off = (tgt : Int)) (kt : 0 ≤ X → W p l e R s m args below meth c H locs cells slots Q (F0 m tgt ls rest)) (kf : X < 0 → W p l e R s m args below meth c H locs cells slots Q (F0 m (pc + 3) ls rest)) : W p l e R s m args below meth c H locs cells slots Q (F0 m pc ls (.int x :: rest)) :=
  lv_if_ge hx hb hdg ht (fun h => kt ((z_le z_0 hX).mp h)) (fun h => kf (Int.lt_of_not_ge (fun q => h ((z_le z_0 hX).mpr q))))
theorem z_if_le (hx : p.tables.exec = Jvm.exec) (hb : c.code = cc) {x : Int32} {X : Int} (hX : x.toInt = X) {off : Int} {tgt : Nat} (hdg : decode cc pc = .ok (.ifCond .le off, 3)) (ht : (pc : Int) + off = (tgt : Int)) (kt : X ≤ 0 → W p l e R s m args below meth c H locs cells slots Q (F0 m tgt ls rest)) (kf : 0 < X → W p l e R s m args below meth c H locs cells slots Q (F0 m (pc + 3) ls rest)) : W p l e R s m args below meth c H locs cells slots Q (F0 m pc ls (.int x :: rest)) :=
  lv_if_le hx hb hdg ht (fun h => kt ((z_le hX z_0).mp h)) (fun h => kf (Int.lt_of_not_ge (fun q => h ((z_le hX z_0).mpr q))))
theorem z_if_gt (hx : p.tables.exec = Jvm.exec) (hb : c.code = cc) {x : Int32} {X : Int} (hX : x.toInt = X) {off : Int} {tgt : Nat} (hdg : decode cc pc = .ok (.ifCond .gt off, 3)) (ht : (pc : Int) + off = (tgt : Int)) (kt : 0 < X → W p l e R s m args below meth c H locs cells slots Q (F0 m tgt ls rest)) (kf : X ≤ 0 → W p l e R s m args below meth c H locs cells slots Q (F0 m (pc + 3) ls rest)) : W p l e R s m args below meth c H locs cells slots Q (F0 m pc ls (.int x :: rest)) :=
  lv_if_gt hx hb hdg ht (fun h => kt ((z_lt z_0 hX).mp h)) (fun h => kf (Int.le_of_not_gt (fun q => h ((z_lt z_0 hX).mpr q))))
theorem z_if_eq (hx : p.tables.exec = Jvm.exec) (hb : c.code = cc) {x : Int32} {X : Int} (hX : x.toInt = X) {off : Int} {tgt : Nat} (hdg : decode cc pc = .ok (.ifCond .eq off, 3)) (ht : (pc : Int) + off = (tgt : Int)) (kt : X = 0 → W p l e R s m args below meth c H locs cells slots Q (F0 m tgt ls rest)) (kf : ¬ X = 0 → W p l e R s m args below meth c H locs cells slots Q (F0 m (pc + 3) ls rest)) : W p l e R s m args below meth c H locs cells slots Q (F0 m pc ls (.int x :: rest)) :=
  lv_if_eq hx hb hdg ht (fun h => kt ((z_eq hX z_0).mp h)) (fun h => kf (fun q => h ((z_eq hX z_0).mpr q)))
theorem z_if_ne (hx : p.tables.exec = Jvm.exec) (hb : c.code = cc) {x : Int32} {X : Int} (hX : x.toInt = X) {off : Int} {tgt : Nat} (hdg : decode cc pc = .ok (.ifCond .ne off, 3)) (ht : (pc : Int) + off = (tgt : Int)) (kt : ¬ X = 0 → W p l e R s m args below meth c H locs cells slots Q (F0 m tgt ls rest)) (kf : X = 0 → W p l e R s m args below meth c H locs cells slots Q (F0 m (pc + 3) ls rest)) : W p l e R s m args below meth c H locs cells slots Q (F0 m pc ls (.int x :: rest)) :=
  lv_if_ne hx hb hdg ht (fun h => kt (fun q => h ((z_eq hX z_0).mpr q))) (fun h => kf ((z_eq hX z_0).mp h))
theorem b_if_eq (hx : p.tables.exec = Jvm.exec) (hb : c.code = cc) {x : Bool} {off : Int} {tgt : Nat} (hdg : decode cc pc = .ok (.ifCond .eq off, 3)) (ht : (pc : Int) + off = (tgt : Int)) (kt : x = false → W p l e R s m args below meth c H locs cells slots Q (F0 m tgt ls rest)) (kf : x = true → W p l e R s m args below meth c H locs cells slots Q (F0 m (pc + 3) ls rest)) : W p l e R s m args below meth c H locs cells slots Q (F0 m pc ls (.int (bI x) :: rest)) :=
  lv_if_eq hx hb hdg ht (fun h => kt (bI_zero h)) (fun h => kf (bI_nzero h))
theorem b_if_ne (hx : p.tables.exec = Jvm.exec) (hb : c.code = cc) {x : Bool} {off : Int} {tgt : Nat} (hdg : decode cc pc = .ok (.ifCond .ne off, 3)) (ht : (pc : Int) + off = (tgt : Int)) (kt : x = true → W p l e R s m args below meth c H locs cells slots Q (F0 m tgt ls rest)) (kf : x = false → W p l e R s m args below meth c H locs cells slots Q (F0 m (pc + 3) ls rest)) : W p l e R s m args below meth c H locs cells slots Q (F0 m pc ls (.int (bI x) :: rest)) :=
  lv_if_ne hx hb hdg ht (fun h => kt (bI_nzero h)) (fun h => kf (bI_zero h))
end NB
/-! contracts in the form of functions -/
def Fp (D : va_G) (cl : List vw_C) (tys : List (ClassId × FieldType)) (w0 : va_W) (sz : Nat) (av : List Value) (X : State → Prop) : Array Value → State → Prop := va_Pc av (fun U => U.heap.size = sz ∧ va_P D cl w0 U.heap ∧ va_K D cl tys U ∧ va_D (fun _ => True) w0 ∧ X U)
def Fq (D : va_G) (cl : List vw_C) (tys : List (ClassId × FieldType)) (w0 w1 : va_W) (sz : Nat) (ans : Option Value) : Array Value → State → Outcome → State → Prop := fun _ st oc t => oc = .returned ans ∧ va_P D cl w1 t.heap ∧ va_K D cl tys t ∧ va_D (va_A w0 sz) w1 ∧ va_F (va_A w0 sz) st t
def Fn (l : Launch) (y : MethodName) (wd : List Cond) (rm : Room) (D : va_G) (cl : List vw_C) (tys : List (ClassId × FieldType)) (av : List Value) (w0 : va_W) (X : State → Prop) (ans : Option Value) (w1 : va_W) : Prop := ∀ sz : Nat, Met l y wd rm (Fp D cl tys w0 sz av X) (Fq D cl tys w0 w1 sz ans) 0 0 (va_A w0 sz)
abbrev XT : State → Prop := fun _ => True
def Xok (X : State → Prop) : Prop := ∀ (u U : State), u.vm = U.vm → U.heap = u.heap → X u → X U
theorem XT_ok : Xok XT := fun _ _ _ _ _ => trivial
theorem Fp_blind {D : va_G} {cl : List vw_C} {tys : List (ClassId × FieldType)} {w0 : va_W} {sz : Nat} {av : List Value} {X : State → Prop} (hX : Xok X) : FrameBlind (Fp D cl tys w0 sz av X) := by
  intro a U g mk h
  obtain ⟨h0, h1, h2, h3, h4, h5⟩ := h
  exact ⟨h0, h1, h2, va_K.moved (u := U) (U := U.calling g mk a) (Vm.Alike.refl U.vm) h3, h4, hX U (U.calling g mk a) rfl rfl h5⟩
theorem Fn.of {l : Launch} {y : MethodName} {wd wd' : List Cond} {rm : Room} {D : va_G} {cl : List vw_C} {tys : List (ClassId × FieldType)} {av : List Value} {w0 w1 : va_W} {X : State → Prop} {ans : Option Value} {cc : ByteArray} {maxL : Nat} {ret : Option FieldType}
    (hy : plainName y.cls = true) (hw : wd = Cond.code y cc maxL ret :: wd') (hlen : (lg_sl av).length ≤ maxL)
    (body : ∀ (p : Program) (e : Env) (s : State) (m : MethodId) (below : List Frame) (meth : Method) (c : Code) (A : Nat → Prop) (ls : Array Slot), p.tables.exec = Jvm.exec → c.code = cc → c.maxLocals = maxL → meth.sig.returnType = ret → (∀ w ∈ wd, w.before av.toArray s = true) → s.vm.findClass y.cls = some m.cls → meth.locks = false → meth.name = y.name → va_P D cl w0 s.heap → va_K D cl tys s → va_D A w0 → va_S A s.heap s.heap [] → (∀ q : Nat, s.heap.size ≤ q → A q) → A = va_A w0 s.heap.size → X s → lv_has ls maxL (lv_args 0 av) →
      W p l e rm s m av.toArray below meth c s.heap [] 0 0 (MQ below (Fq D cl tys w0 w1 s.heap.size ans) av.toArray s 0 0 (va_A w0 s.heap.size)) (F0 m 0 ls [])) : Fn l y wd rm D cl tys av w0 X ans w1 := by
  intro sz
  refine Met.ofW (cc := cc) (maxL := maxL) (ret := ret) hy hw ?_
  intro p e s m args below meth c s₁ B hml hv
  obtain ⟨rfl, hsz, hP, hK, hD0, hX⟩ := hv
  subst hsz
  have hl := lv_entry av (n := maxL) hlen
  rw [lg_entry_eq]
  exact body p e s m below meth c _ _ B.exec B.bytes hml B.returns (atoms_spec (ws := wd) B.pre) (findClass_of_methodNamed B.named) B.notSynchronized (name_of_methodNamed B.named B.method).1 hP hK hD0.self va_S.rf (fun q h => Or.inr h) rfl hX hl
section FR
variable {p : Program} {l : Launch} {e : Env} {R : Room} {s : State} {m : MethodId} {args : Array Value} {below : List Frame} {meth : Method} {c : Code} {H : Heap} {locs : List Loc} {cells slots : Nat} {Q : State → Prop}
variable {cc : ByteArray} {pc : Nat} {ls : Array Slot} {rest : List Value} {D : va_G} {cl : List vw_C} {A : Nat → Prop} {a : Nat} {tys : List (ClassId × FieldType)} {ws w0 w1 : va_W} {H0 : Heap} {ans : Option Value}
theorem fn_vret (hx : p.tables.exec = Jvm.exec) (hb : c.code = cc) (hr : meth.sig.returnType = none) (hlocks : meth.locks = false) (hAe : A = va_A w0 s.heap.size) (hK : va_K D cl tys s) (hP : va_P D cl w1 H) (hD : va_D A w1) (hS : va_S A s.heap H locs) (hdg : decode cc pc = .ok (.return_, 1)) : W p l e R s m args below meth c H locs 0 0 (MQ below (Fq D cl tys w0 w1 s.heap.size none) args s 0 0 (va_A w0 s.heap.size)) (F0 m pc ls []) := by
  subst hAe
  exact W.vret hx hb hr (fun t ht hW => ⟨rfl, by rw [ht]; exact hP, va_K.moved hW.alike hK, hD, hS.F ht⟩) hS.2.2 hdg hlocks
theorem fn_iret (hx : p.tables.exec = Jvm.exec) (hb : c.code = cc) (hr : meth.sig.returnType = some .int) (hlocks : meth.locks = false) (hAe : A = va_A w0 s.heap.size) (hK : va_K D cl tys s) (hP : va_P D cl w1 H) (hD : va_D A w1) (hS : va_S A s.heap H locs) {v v' : Int32} (hv : v = v') (hdg : decode cc pc = .ok (.ireturn, 1)) : W p l e R s m args below meth c H locs 0 0 (MQ below (Fq D cl tys w0 w1 s.heap.size (some (.int v'))) args s 0 0 (va_A w0 s.heap.size)) (F0 m pc ls [.int v]) := by
  subst hAe; subst hv
  exact W.iret hx hb hr (fun t ht hW => ⟨rfl, by rw [ht]; exact hP, va_K.moved hW.alike hK, hD, hS.F ht⟩) hS.2.2 hdg hlocks
theorem fn_zret (hx : p.tables.exec = Jvm.exec) (hb : c.code = cc) (hr : meth.sig.returnType = some .boolean) (hlocks : meth.locks = false) (hAe : A = va_A w0 s.heap.size) (hK : va_K D cl tys s) (hP : va_P D cl w1 H) (hD : va_D A w1) (hS : va_S A s.heap H locs) {v : Int32} {b : Bool} (hv : v = bI b) (hdg : decode cc pc = .ok (.ireturn, 1)) : W p l e R s m args below meth c H locs 0 0 (MQ below (Fq D cl tys w0 w1 s.heap.size (some (.int (bI b)))) args s 0 0 (va_A w0 s.heap.size)) (F0 m pc ls [.int v]) := by
  subst hAe; subst hv
  exact W.zret hx hb hr (bI_nar b) (fun t ht hW => ⟨rfl, by rw [ht]; exact hP, va_K.moved hW.alike hK, hD, hS.F ht⟩) hS.2.2 hdg hlocks
theorem fn_lret (hx : p.tables.exec = Jvm.exec) (hb : c.code = cc) (hr : meth.sig.returnType = some .long) (hlocks : meth.locks = false) (hAe : A = va_A w0 s.heap.size) (hK : va_K D cl tys s) (hP : va_P D cl w1 H) (hD : va_D A w1) (hS : va_S A s.heap H locs) {v v' : Int64} (hv : v = v') (hdg : decode cc pc = .ok (.lreturn, 1)) : W p l e R s m args below meth c H locs 0 0 (MQ below (Fq D cl tys w0 w1 s.heap.size (some (.long v'))) args s 0 0 (va_A w0 s.heap.size)) (F0 m pc ls [.long v]) := by
  subst hAe; subst hv
  exact W.lret hx hb hr (fun t ht hW => ⟨rfl, by rw [ht]; exact hP, va_K.moved hW.alike hK, hD, hS.F ht⟩) hS.2.2 hdg hlocks
variable {st0 : List Value} {av : List Value} {tysc : List (ClassId × FieldType)} {wc wr ws' : va_W} {X : State → Prop}
theorem fn_call {aa : Array Value} (hr : va_Run p l e R s m args below meth c H locs cells slots 0 0 (F0 m pc ls st0) rest (Fq D cl tysc wc w1 H.size ans aa) (va_A wc H.size)) (hP : va_P D cl ws H) (hD : va_D A ws) (hS : va_S A H0 H locs) (hA : ∀ q : Nat, H0.size ≤ q → A q) (isC isR is2 : List Nat) (hC : isC.map (fun i => ws[i]?) = wc.map some) (hR : isR.map (fun i => ws[i]?) = wr.map some) (hn : va_nd isR = true) (hdis : ∀ i ∈ isR, i ∉ isC) (hn2 : va_nd is2 = true) (h2 : is2.map (fun i => (wr ++ w1)[i]?) = ws'.map some)
    {st1 : List Value} (hst : ans.toList ++ rest = st1) (kk : ∀ (H1 : Heap) (locs1 : List Loc), va_P D cl ws' H1 → va_D A ws' → va_S A H0 H1 locs1 → W p l e R s m args below meth c H1 locs1 cells slots Q (F0 m (pc + 3) ls st1)) : W p l e R s m args below meth c H locs cells slots Q (F0 m pc ls st0) := by
  intro T hT X'
  obtain ⟨v, st₀, t, T', L, h0, X', hL, e1, e2, ⟨hv, hP1, hK1, hD1, hz, hk⟩, st⟩ := hr T hT X'
  cases hv
  subst hst
  rw [h0] at hz hk
  rw [← e1] at hz hk hP1
  have hFc := va_free (wc := wc) hD hS hA isC hC
  obtain ⟨hP2, hD2⟩ := va_join (wr := wr) (w1 := w1) hP hD isC isR hC hR hn hdis hk hFc hP1 hD1
  have hP3 : va_P D cl ws' T'.heap := by
    intro k q hq
    have h1 : (is2.map (fun i => (wr ++ w1)[i]?))[k]? = some (some q) := by rw [h2, List.getElem?_map, hq]; rfl
    rw [List.getElem?_map] at h1
    cases hi : is2[k]? with
    | none => rw [hi] at h1; cases h1
    | some i => rw [hi] at h1; exact hP2 i q (Option.some.inj h1)
  obtain ⟨t2, a1, b1⟩ := kk T'.heap (locs ++ L) hP3 (hD2.sub is2 hn2 h2)
    ⟨Nat.le_trans hS.1 hz, fun q h1 h2 => by rw [hk q (Nat.lt_of_lt_of_le h1 hS.1) (fun z => h2 (hFc q z))]; exact hS.2.1 q h1 h2, fun q hq => by
      rcases List.mem_append.mp hq with h | h
      · exact hS.2.2 q h
      · exact hFc _ (hL q h)⟩ T' rfl X'
  exact ⟨t2, st t2 a1, b1⟩
theorem fn_pre (hX : Xok X) {tcs : List Nat} (hK : va_K D cl tys s) (hKc : tcs.filterMap (fun i => tys[i]?) = tysc) (hP : va_P D cl ws H) (hD : va_D A ws) (isC : List Nat) (hnC : va_nd isC = true) (hC : isC.map (fun i => ws[i]?) = wc.map some) (hXs : ∀ U : State, U.heap = H → s.WarmedH U.vm → X U) : FrameBlind (Fp D cl tysc wc H.size av X) ∧ ∀ U : State, U.heap = H → s.WarmedH U.vm → Fp D cl tysc wc H.size av X av.toArray U := by
  refine ⟨Fp_blind hX, fun U hU hW => ⟨rfl, by rw [hU], ?_, va_K.moved hW.alike (hK.sub tcs hKc), (hD.sub isC hnC hC).weaken (fun _ _ _ _ => trivial), hXs U hU hW⟩⟩
  rw [hU]
  intro k q hq
  have h1 : (isC.map (fun i => ws[i]?))[k]? = some (some q) := by rw [hC, List.getElem?_map, hq]; rfl
  rw [List.getElem?_map] at h1
  cases hi : isC[k]? with
  | none => rw [hi] at h1; cases h1
  | some i => rw [hi] at h1; exact hP i q (Option.some.inj h1)
variable {y : MethodName} {bytes : ByteArray} {maxL nL n index : Nat} {ret : Option FieldType} {wd : List Cond} {rm : Room} {Ts : List Cond} {own C host : String} {b : Addr} {As : List Value}
theorem fn_V (SS : CallFix p m c cc nL s args Ts own) (h : Fn l y wd rm D cl tysc (.ref b :: As) wc X ans w1) (cw : CallW R s args own C index y bytes maxL ret wd rm 0 0 n) (hX : Xok X) (hXs : ∀ U : State, U.heap = H → s.WarmedH U.vm → X U)
    (hK : va_K D cl tys s) (hP : va_P D cl ws H) (hD : va_D A ws) (hS : va_S A H0 H locs) (hA : ∀ q : Nat, H0.size ≤ q → A q) (q0 ci : Nat) {q : vw_C} {fs : List Value} (hci : cl[ci]? = some q) (hqC : q.1 = C) (he : ws[q0]? = some (b, .inr (ci, fs)))
    (tcs isC isR is2 : List Nat) (hKc : tcs.filterMap (fun i => tys[i]?) = tysc) (hnC : va_nd isC = true) (hC : isC.map (fun i => ws[i]?) = wc.map some) (hR : isR.map (fun i => ws[i]?) = wr.map some) (hn : va_nd isR = true) (hdis : ∀ i ∈ isR, i ∉ isC) (hn2 : va_nd is2 = true) (h2 : is2.map (fun i => (wr ++ w1)[i]?) = ws'.map some)
    (hlen : As.length = n) (hsize : ls.size = nL) (hstack : st0 = As.reverse ++ .ref b :: rest) (hW : (rest.map fun v => v.category).sum ≤ 8) (hdg : decode cc pc = .ok (.invokevirtual index, 3)) (hf : cells ≤ R.cells ∧ slots ≤ R.slots)
    {st1 : List Value} (hst : ans.toList ++ rest = st1) (kk : ∀ (H1 : Heap) (locs1 : List Loc), va_P D cl ws' H1 → va_D A ws' → va_S A H0 H1 locs1 → W p l e R s m args below meth c H1 locs1 cells slots Q (F0 m (pc + 3) ls st1)) : W p l e R s m args below meth c H locs cells slots Q (F0 m pc ls st0) := by
  have hpre := fn_pre (av := .ref b :: As) hX hK hKc hP hD isC hnC hC hXs
  refine fn_call (va_runV (As := As) (rest := rest) SS (h H.size) cw ⟨hpre.1, ?_, hpre.2⟩ rfl hlen hsize hstack (lv_room hW) hdg hf) hP hD hS hA isC isR is2 hC hR hn hdis hn2 h2 hst kk
  subst hqC
  exact va_recv hK hP hci he
theorem fn_VN (SS : CallFix p m c cc nL s args Ts own) (h : Fn l y wd rm D cl tysc (.ref b :: As) wc X ans w1) (cw : va_CN R s args own index y host bytes maxL ret wd rm 0 0 n ∧ (Cond.instanceMethod y).before args s = true ∧ (Cond.selects C y y).before args s = true) (hX : Xok X) (hXs : ∀ U : State, U.heap = H → s.WarmedH U.vm → X U)
    (hK : va_K D cl tys s) (hP : va_P D cl ws H) (hD : va_D A ws) (hS : va_S A H0 H locs) (hA : ∀ q : Nat, H0.size ≤ q → A q) (q0 ci : Nat) {q : vw_C} {fs : List Value} (hci : cl[ci]? = some q) (hqC : q.1 = C) (he : ws[q0]? = some (b, .inr (ci, fs)))
    (tcs isC isR is2 : List Nat) (hKc : tcs.filterMap (fun i => tys[i]?) = tysc) (hnC : va_nd isC = true) (hC : isC.map (fun i => ws[i]?) = wc.map some) (hR : isR.map (fun i => ws[i]?) = wr.map some) (hn : va_nd isR = true) (hdis : ∀ i ∈ isR, i ∉ isC) (hn2 : va_nd is2 = true) (h2 : is2.map (fun i => (wr ++ w1)[i]?) = ws'.map some)
    (hlen : As.length = n) (hsize : ls.size = nL) (hstack : st0 = As.reverse ++ .ref b :: rest) (hW : (rest.map fun v => v.category).sum ≤ 8) (hdg : decode cc pc = .ok (.invokevirtual index, 3)) (hf : cells ≤ R.cells ∧ slots ≤ R.slots)
    {st1 : List Value} (hst : ans.toList ++ rest = st1) (kk : ∀ (H1 : Heap) (locs1 : List Loc), va_P D cl ws' H1 → va_D A ws' → va_S A H0 H1 locs1 → W p l e R s m args below meth c H1 locs1 cells slots Q (F0 m (pc + 3) ls st1)) : W p l e R s m args below meth c H locs cells slots Q (F0 m pc ls st0) := by
  have hpre := fn_pre (av := .ref b :: As) hX hK hKc hP hD isC hnC hC hXs
  refine fn_call (va_runVN (As := As) (rest := rest) SS (h H.size) cw ⟨hpre.1, ?_, hpre.2⟩ rfl hlen hsize hstack (lv_room hW) hdg hf) hP hD hS hA isC isR is2 hC hR hn hdis hn2 h2 hst kk
  subst hqC
  exact va_recv hK hP hci he
theorem fn_S (SS : CallFix p m c cc nL s args Ts own) (h : Fn l y wd rm D cl tysc As wc X ans w1) (cw : CallB R s args own index y bytes maxL ret wd rm 0 0 n ∧ (Cond.static y).before args s = true) (hX : Xok X) (hXs : ∀ U : State, U.heap = H → s.WarmedH U.vm → X U)
    (hK : va_K D cl tys s) (hP : va_P D cl ws H) (hD : va_D A ws) (hS : va_S A H0 H locs) (hA : ∀ q : Nat, H0.size ≤ q → A q)
    (tcs isC isR is2 : List Nat) (hKc : tcs.filterMap (fun i => tys[i]?) = tysc) (hnC : va_nd isC = true) (hC : isC.map (fun i => ws[i]?) = wc.map some) (hR : isR.map (fun i => ws[i]?) = wr.map some) (hn : va_nd isR = true) (hdis : ∀ i ∈ isR, i ∉ isC) (hn2 : va_nd is2 = true) (h2 : is2.map (fun i => (wr ++ w1)[i]?) = ws'.map some)
    (hlen : As.length = n) (hsize : ls.size = nL) (hstack : st0 = As.reverse ++ rest) (hW : (rest.map fun v => v.category).sum ≤ 8) (hdg : decode cc pc = .ok (.invokestatic index, 3)) (hf : cells ≤ R.cells ∧ slots ≤ R.slots)
    {st1 : List Value} (hst : ans.toList ++ rest = st1) (kk : ∀ (H1 : Heap) (locs1 : List Loc), va_P D cl ws' H1 → va_D A ws' → va_S A H0 H1 locs1 → W p l e R s m args below meth c H1 locs1 cells slots Q (F0 m (pc + 3) ls st1)) : W p l e R s m args below meth c H locs cells slots Q (F0 m pc ls st0) := by
  have hpre := fn_pre (av := As) hX hK hKc hP hD isC hnC hC hXs
  exact fn_call (va_runS (As := As) (rest := rest) SS (h H.size) cw hpre rfl hlen hsize hstack (lv_room hW) hdg hf) hP hD hS hA isC isR is2 hC hR hn hdis hn2 h2 hst kk
end FR
/-! loops, and the rows of the sets as functions -/
theorem lg_eq0 {x y : Int64} : lg_cmp x y = 0 ↔ x = y := lg_cmp_eq x y
section LP
variable {p : Program} {l : Launch} {e : Env} {R : Room} {s : State} {m : MethodId} {args : Array Value} {below : List Frame} {meth : Method} {c : Code} {H : Heap} {locs : List Loc} {cells slots : Nat} {Q : State → Prop}
variable {cc : ByteArray} {pc : Nat} {ls : Array Slot} {rest : List Value}
theorem l_if_eq (hx : p.tables.exec = Jvm.exec) (hb : c.code = cc) {x y : Int64} {off : Int} {tgt : Nat} (hdg : decode cc pc = .ok (.ifCond .eq off, 3)) (ht : (pc : Int) + off = (tgt : Int)) (kt : x = y → W p l e R s m args below meth c H locs cells slots Q (F0 m tgt ls rest)) (kf : ¬ x = y → W p l e R s m args below meth c H locs cells slots Q (F0 m (pc + 3) ls rest)) : W p l e R s m args below meth c H locs cells slots Q (F0 m pc ls (.int (lg_cmp x y) :: rest)) :=
  lv_if_eq hx hb hdg ht (fun h => kt (lg_eq0.mp h)) (fun h => kf (fun q => h (lg_eq0.mpr q)))
theorem l_if_ne (hx : p.tables.exec = Jvm.exec) (hb : c.code = cc) {x y : Int64} {off : Int} {tgt : Nat} (hdg : decode cc pc = .ok (.ifCond .ne off, 3)) (ht : (pc : Int) + off = (tgt : Int)) (kt : ¬ x = y → W p l e R s m args below meth c H locs cells slots Q (F0 m tgt ls rest)) (kf : x = y → W p l e R s m args below meth c H locs cells slots Q (F0 m (pc + 3) ls rest)) : W p l e R s m args below meth c H locs cells slots Q (F0 m pc ls (.int (lg_cmp x y) :: rest)) :=
  lv_if_ne hx hb hdg ht (fun h => kt (fun q => h (lg_eq0.mpr q))) (fun h => kf (lg_eq0.mp h))
theorem w_loop (pc : Nat) (st : List Value) (N : Nat) (J : Nat → Heap → List Loc → Array Slot → Prop)
    (hs : ∀ i : Nat, i ≤ N → (∀ (H : Heap) (locs : List Loc) (ls : Array Slot), i < N → J (i + 1) H locs ls → W p l e R s m args below meth c H locs cells slots Q (F0 m pc ls st)) → ∀ (H : Heap) (locs : List Loc) (ls : Array Slot), J i H locs ls → W p l e R s m args below meth c H locs cells slots Q (F0 m pc ls st)) :
    ∀ i : Nat, i ≤ N → ∀ (H : Heap) (locs : List Loc) (ls : Array Slot), J i H locs ls → W p l e R s m args below meth c H locs cells slots Q (F0 m pc ls st) := by
  have main : ∀ n i : Nat, i ≤ N → N < i + n → ∀ (H : Heap) (locs : List Loc) (ls : Array Slot), J i H locs ls → W p l e R s m args below meth c H locs cells slots Q (F0 m pc ls st) := by
    intro n
    induction n with
    | zero => intro i h1 h2; exact absurd h2 (by omega)
    | succ n ih =>
      intro i h1 h2
      exact hs i h1 (fun H locs ls h3 h4 => ih (i + 1) h3 (by omega) H locs ls h4)
  intro i hi
  exact main (N + 1) i hi (by omega)
end LP
def rset (g : Nat → Int64) (to n : Nat) (w : Nat → Int64) : Nat → Int64 := fun j => if to * 16 ≤ j ∧ j < to * 16 + n then g (j - to * 16) else w j
theorem rset_0 (g : Nat → Int64) (to : Nat) (w : Nat → Int64) : rset g to 0 w = w := by
  funext j
  unfold rset
  rw [if_neg (by omega)]
theorem rset_st (g : Nat → Int64) (to i : Nat) (w : Nat → Int64) : vp_updL (rset g to i w) (to * 16 + i) (g i) = rset g to (i + 1) w := by
  funext j
  unfold vp_updL rset
  by_cases h : j = to * 16 + i
  · subst h
    rw [if_pos rfl, if_pos (by omega), show to * 16 + i - to * 16 = i by omega]
  · rw [if_neg h]
    by_cases h2 : to * 16 ≤ j ∧ j < to * 16 + i
    · rw [if_pos h2, if_pos (by omega)]
    · rw [if_neg h2, if_neg (by omega)]
theorem rset_rd (g : Nat → Int64) {to a i N : Nat} (w : Nat → Int64) (h : to ≤ a ∨ a * 16 + N ≤ to * 16) (hi : i < N) : rset g to i w (a * 16 + i) = w (a * 16 + i) := by
  unfold rset
  rw [if_neg (by omega)]
def bL (b : Bool) : Int64 := if b then -1 else 0
def oFill (al : Bool) (to rows : Nat) (w : Nat → Int64) : Nat → Int64 := rset (fun _ => bL al) to (rows * 16) w
def wbpT (k : Nat) : Int64 := if k = 0 then -6148914691236517206 else if k = 1 then -3689348814741910324 else if k = 2 then -1085102592571150096 else if k = 3 then -71777214294589696 else if k = 4 then -281470681808896 else -4294967296
def wbp (i place : Nat) : Int64 := if place < 6 then wbpT place else if i / 2 ^ (place - 6) % 2 = 1 then -1 else 0
def oPlace (to place : Nat) (w : Nat → Int64) : Nat → Int64 := rset (fun i => wbp i place) to 16 w
def oCopy (to a rows : Nat) (w : Nat → Int64) : Nat → Int64 := rset (fun i => w (a * 16 + i)) to (rows * 16) w
def oTurn (to a rows : Nat) (w : Nat → Int64) : Nat → Int64 := rset (fun i => w (a * 16 + i) ^^^ (-1)) to (rows * 16) w
def oAnd (to a b rows : Nat) (w : Nat → Int64) : Nat → Int64 := rset (fun i => w (a * 16 + i) &&& w (b * 16 + i)) to (rows * 16) w
def oOr (to a b rows : Nat) (w : Nat → Int64) : Nat → Int64 := rset (fun i => w (a * 16 + i) ||| w (b * 16 + i)) to (rows * 16) w
def oXor (to a b rows : Nat) (w : Nat → Int64) : Nat → Int64 := rset (fun i => w (a * 16 + i) ^^^ w (b * 16 + i)) to (rows * 16) w
def oChoose (to cd ye no : Nat) (w : Nat → Int64) : Nat → Int64 := rset (fun i => (w (cd * 16 + i) &&& w (ye * 16 + i)) ||| ((w (cd * 16 + i) ^^^ (-1)) &&& w (no * 16 + i))) to 16 w
def oRemove (to a : Nat) (w : Nat → Int64) : Nat → Int64 := rset (fun i => w (to * 16 + i) &&& (w (a * 16 + i) ^^^ (-1))) to 16 w
def pNone (w : Nat → Int64) (a b : Nat) : Bool := (List.range 16).all (fun i => decide (w (a * 16 + i) &&& w (b * 16 + i) = 0))
def pWithin (w : Nat → Int64) (a b : Nat) : Bool := (List.range 16).all (fun i => decide (w (a * 16 + i) &&& (w (b * 16 + i) ^^^ (-1)) = 0))
theorem all16 {P : Nat → Bool} : (List.range 16).all P = true ↔ ∀ i, i < 16 → P i = true := by
  rw [List.all_eq_true]
  exact ⟨fun h i hi => h i (List.mem_range.mpr hi), fun h i hi => h i (List.mem_range.mp hi)⟩
theorem pNone_all {w : Nat → Int64} {a b : Nat} : pNone w a b = true ↔ ∀ i, i < 16 → w (a * 16 + i) &&& w (b * 16 + i) = 0 := by
  unfold pNone
  rw [all16]
  exact ⟨fun h i hi => of_decide_eq_true (h i hi), fun h i hi => decide_eq_true (h i hi)⟩
theorem pWithin_all {w : Nat → Int64} {a b : Nat} : pWithin w a b = true ↔ ∀ i, i < 16 → w (a * 16 + i) &&& (w (b * 16 + i) ^^^ (-1)) = 0 := by
  unfold pWithin
  rw [all16]
  exact ⟨fun h i hi => of_decide_eq_true (h i hi), fun h i hi => decide_eq_true (h i hi)⟩
def pBit (w : Nat → Int64) (r x : Nat) : Bool := (w (r * 16 + x / 64)).toBitVec.getLsbD (x % 64)
def lowB (x : Int64) : Nat → Nat → Nat
  | 0, k => k
  | n + 1, k => if x.toBitVec.getLsbD k = true then k else lowB x n (k + 1)
def lowW (w : Nat → Int64) (r : Nat) : Nat → Nat → Nat
  | 0, _ => 0
  | n + 1, i => if w (r * 16 + i) = 0 then lowW w r n (i + 1) else i * 64 + lowB (w (r * 16 + i)) 63 0
def pLow (w : Nat → Int64) (r : Nat) : Nat := lowW w r 16 0
def cAdd (to a b : Nat) (w : Nat → Int64) : Nat → Int64 := oOr 257 257 259 1 (oAnd 257 257 258 1 (oXor to 258 257 1 (oAnd 259 a b 1 (oXor 258 a b 1 w))))
def cSumN (to a b : Nat) : Nat → (Nat → Int64) → (Nat → Int64)
  | 0, w => w
  | k + 1, w => cAdd (to + k) (a + k) (b + k) (cSumN to a b k w)
def cSum (to a b width : Nat) (w : Nat → Int64) : Nat → Int64 := cSumN to a b width (oFill false 257 1 w)
def cDiffN (to a b : Nat) : Nat → (Nat → Int64) → (Nat → Int64)
  | 0, w => w
  | k + 1, w => cAdd (to + k) (a + k) 256 (oTurn 256 (b + k) 1 (cDiffN to a b k w))
def cDiff (to a b width : Nat) (w : Nat → Int64) : Nat → Int64 := cDiffN to a b width (oFill true 257 1 w)
def cProdI (to a b sh : Nat) : Nat → (Nat → Int64) → (Nat → Int64)
  | 0, w => w
  | n + 1, w => cAdd (to + (sh + n)) (to + (sh + n)) 256 (oAnd 256 (a + (sh + n) - sh) (b + sh) 1 (cProdI to a b sh n w))
def cProdO (to a b width : Nat) : Nat → (Nat → Int64) → (Nat → Int64)
  | 0, w => w
  | sh + 1, w => cProdI to a b sh (width - sh) (oFill false 257 1 (cProdO to a b width sh w))
def cProd (to a b width : Nat) (w : Nat → Int64) : Nat → Int64 := cProdO to a b width width (oFill false to width w)
def cUpN (to a way : Nat) : Nat → (Nat → Int64) → (Nat → Int64)
  | 0, w => w
  | k + 1, w => if k < way then oFill false (to + k) 1 (cUpN to a way k w) else oCopy (to + k) (a + k - way) 1 (cUpN to a way k w)
def cDownN (to a width way : Nat) (sg : Bool) : Nat → (Nat → Int64) → (Nat → Int64)
  | 0, w => w
  | k + 1, w => if k + way < width then oCopy (to + k) (a + k + way) 1 (cDownN to a width way sg k w) else if sg = true then oCopy (to + k) (a + width - 1) 1 (cDownN to a width way sg k w) else oFill false (to + k) 1 (cDownN to a width way sg k w)
def cChoN (to cd ye no : Nat) : Nat → (Nat → Int64) → (Nat → Int64)
  | 0, w => w
  | k + 1, w => oChoose (to + k) cd (ye + k) (no + k) (cChoN to cd ye no k w)
def cEqN (to a b : Nat) : Nat → (Nat → Int64) → (Nat → Int64)
  | 0, w => w
  | k + 1, w => oRemove to 256 (oXor 256 (a + k) (b + k) 1 (cEqN to a b k w))
def cEq (to a b width : Nat) (w : Nat → Int64) : Nat → Int64 := cEqN to a b width (oFill true to 1 w)
def cLessN (to a b width : Nat) (sg : Bool) : Nat → (Nat → Int64) → (Nat → Int64)
  | 0, w => w
  | k + 1, w => oChoose to 256 (if sg = true ∧ k = width - 1 then a + k else b + k) to (oXor 256 (a + k) (b + k) 1 (cLessN to a b width sg k w))
def cLess (to a b width : Nat) (sg : Bool) (w : Nat → Int64) : Nat → Int64 := cLessN to a b width sg width (oFill false to 1 w)
def cAtMost (to a b width : Nat) (sg : Bool) (w : Nat → Int64) : Nat → Int64 := oTurn to to 1 (cLess to b a width sg w)
def updN (f : Nat → Nat) (k x : Nat) : Nat → Nat := fun j => if j = k then x else f j
theorem updN_I (f : Nat → Nat) (k x : Nat) : upd (fun j => nI (f j)) k (nI x) = fun j => nI (updN f k x j) := by
  funext j
  unfold upd updN
  by_cases h : j = k
  · rw [if_pos h, if_pos h]
  · rw [if_neg h, if_neg h]
abbrev nilW : va_W := []
theorem n_and1_t (a : Nat) : nI a &&& nI 1 = nI (a % 2) := by rw [n_and_t, Nat.and_one_is_mod]
section NB4
variable {p : Program} {l : Launch} {e : Env} {R : Room} {s : State} {m : MethodId} {args : Array Value} {below : List Frame} {meth : Method} {c : Code} {H : Heap} {locs : List Loc} {cells slots : Nat} {Q : State → Prop}
variable {cc : ByteArray} {pc : Nat} {ls : Array Slot} {rest : List Value}
theorem n_and1 (hx : p.tables.exec = Jvm.exec) (hb : c.code = cc) {x : Nat} (hdg : decode cc pc = .ok (.iand, 1)) (k : W p l e R s m args below meth c H locs cells slots Q (F0 m (pc + 1) ls (.int (nI (x % 2)) :: rest))) : W p l e R s m args below meth c H locs cells slots Q (F0 m pc ls (.int (nI 1) :: .int (nI x) :: rest)) :=
  t_iand hx hb hdg (n_and1_t x) k
end NB4
theorem wbp_lo {i place : Nat} (h : place < 6) : wbpT place = wbp i place := by
  unfold wbp
  rw [if_pos h]
theorem wbp_0 {i place : Nat} (h : ¬ place < 6) (h2 : ¬ i / 2 ^ (place - 6) % 2 = 1) : (0 : Int64) = wbp i place := by
  unfold wbp
  rw [if_neg h, if_neg h2]
theorem wbp_1 {i place : Nat} (h : ¬ place < 6) (h2 : i / 2 ^ (place - 6) % 2 = 1) : (-1 : Int64) = wbp i place := by
  unfold wbp
  rw [if_neg h, if_pos h2]
theorem pNone_no {w : Nat → Int64} {a b i : Nat} (hi : i < 16) (h : ¬ w (a * 16 + i) &&& w (b * 16 + i) = 0) : pNone w a b = false := by
  exact Bool.eq_false_iff.mpr (fun q => h (pNone_all.mp q i hi))
theorem pNone_yes {w : Nat → Int64} {a b : Nat} (h : ∀ i, i < 16 → w (a * 16 + i) &&& w (b * 16 + i) = 0) : pNone w a b = true := by
  exact pNone_all.mpr h
theorem pWithin_no {w : Nat → Int64} {a b i : Nat} (hi : i < 16) (h : ¬ w (a * 16 + i) &&& (w (b * 16 + i) ^^^ (-1)) = 0) : pWithin w a b = false := by
  exact Bool.eq_false_iff.mpr (fun q => h (pWithin_all.mp q i hi))
theorem pWithin_yes {w : Nat → Int64} {a b : Nat} (h : ∀ i, i < 16 → w (a * 16 + i) &&& (w (b * 16 + i) ^^^ (-1)) = 0) : pWithin w a b = true := by
  exact pWithin_all.mpr h
theorem sh_amt : ∀ k, k < 64 → ((nI k).toInt64.toUInt64 &&& Int64.toUInt64 63) = UInt64.ofNat k := by decide +kernel
theorem sh_bit (x : Int64) {k : Nat} (hk : k < 64) : ((x.toUInt64 >>> ((nI k).toInt64.toUInt64 &&& Int64.toUInt64 63)).toInt64 &&& 1) = if x.toBitVec.getLsbD k = true then 1 else 0 := by
  rw [sh_amt k hk]
  apply Int64.toBitVec_inj.mp
  apply BitVec.eq_of_getLsbD_eq
  intro j hj
  have e1 : (x.toUInt64 >>> UInt64.ofNat k).toInt64.toBitVec = x.toBitVec >>> k := by
    show (x.toUInt64 >>> UInt64.ofNat k).toBitVec = _
    rw [UInt64.toBitVec_shiftRight]
    show x.toBitVec >>> ((UInt64.ofNat k).toBitVec % 64) = x.toBitVec >>> k
    show x.toBitVec >>> (((UInt64.ofNat k).toBitVec % 64).toNat) = x.toBitVec >>> k
    congr 1
    show ((BitVec.ofNat 64 k) % 64#64).toNat = k
    rw [BitVec.toNat_umod, BitVec.toNat_ofNat]
    show (k % 18446744073709551616) % 64 = k
    omega
  rw [Int64.toBitVec_and, e1]
  show ((x.toBitVec >>> k) &&& (1#64)).getLsbD j = _
  rw [BitVec.getLsbD_and, BitVec.getLsbD_ushiftRight]
  by_cases hb : x.toBitVec.getLsbD k = true
  · rw [if_pos hb]
    show _ = (1#64).getLsbD j
    by_cases h0 : j = 0
    · subst h0
      rw [Nat.add_zero, hb]
      rfl
    · rw [BitVec.getLsbD_one]
      simp [h0]
  · rw [if_neg hb]
    show _ = (0#64).getLsbD j
    by_cases h0 : j = 0
    · subst h0
      rw [Nat.add_zero]
      simp [hb]
    · rw [BitVec.getLsbD_one]
      simp [h0]
theorem pBit_yes {w : Nat → Int64} {r x : Nat} (_ : x < 1024) (h : ((w (r * 16 + x / 64)).toUInt64 >>> ((nI (x % 64)).toInt64.toUInt64 &&& Int64.toUInt64 63)).toInt64 &&& 1 = 1) : pBit w r x = true := by
  rw [sh_bit _ (by omega)] at h
  unfold pBit
  by_cases hb : (w (r * 16 + x / 64)).toBitVec.getLsbD (x % 64) = true
  · exact hb
  · rw [if_neg hb] at h
    exact absurd h (by decide)
theorem pBit_no {w : Nat → Int64} {r x : Nat} (_ : x < 1024) (h : ¬ ((w (r * 16 + x / 64)).toUInt64 >>> ((nI (x % 64)).toInt64.toUInt64 &&& Int64.toUInt64 63)).toInt64 &&& 1 = 1) : pBit w r x = false := by
  rw [sh_bit _ (by omega)] at h
  unfold pBit
  by_cases hb : (w (r * 16 + x / 64)).toBitVec.getLsbD (x % 64) = true
  · rw [if_pos hb] at h
    exact absurd rfl h
  · exact Bool.eq_false_iff.mpr hb
theorem lowB_end {x : Int64} {i : Nat} (h : 63 ≤ i) : lowB x (63 - i) i = i := by
  rw [show 63 - i = 0 by omega]
  rfl
theorem lowB_hit {x : Int64} {i : Nat} (h : i < 63) (c : ¬ (x.toUInt64 >>> ((nI i).toInt64.toUInt64 &&& Int64.toUInt64 63)).toInt64 &&& 1 = 0) : lowB x (63 - i) i = i := by
  rw [sh_bit _ (by omega)] at c
  rw [show 63 - i = (62 - i) + 1 by omega]
  unfold lowB
  by_cases hb : x.toBitVec.getLsbD i = true
  · rw [if_pos hb]
  · rw [if_neg hb] at c
    exact absurd rfl c
theorem lowB_go {x : Int64} {i : Nat} (h : i < 63) (c : (x.toUInt64 >>> ((nI i).toInt64.toUInt64 &&& Int64.toUInt64 63)).toInt64 &&& 1 = 0) : lowB x (63 - i) i = lowB x (63 - (i + 1)) (i + 1) := by
  rw [sh_bit _ (by omega)] at c
  rw [show 63 - i = (63 - (i + 1)) + 1 by omega]
  conv => lhs; unfold lowB
  by_cases hb : x.toBitVec.getLsbD i = true
  · rw [if_pos hb] at c
    exact absurd c (by decide)
  · rw [if_neg hb]
theorem lowW_end {w : Nat → Int64} {r i : Nat} (h : 16 ≤ i) : lowW w r (16 - i) i = 0 := by
  rw [show 16 - i = 0 by omega]
  rfl
theorem lowW_hit {w : Nat → Int64} {r i : Nat} (h : i < 16) (c : ¬ w (r * 16 + i) = 0) : lowW w r (16 - i) i = i * 64 + lowB (w (r * 16 + i)) 63 0 := by
  rw [show 16 - i = (15 - i) + 1 by omega]
  conv => lhs; unfold lowW
  rw [if_neg c]
theorem lowW_go {w : Nat → Int64} {r i : Nat} (h : i < 16) (c : w (r * 16 + i) = 0) : lowW w r (16 - i) i = lowW w r (16 - (i + 1)) (i + 1) := by
  rw [show 16 - i = (16 - (i + 1)) + 1 by omega]
  conv => lhs; unfold lowW
  rw [if_pos c]
def Zt (n0 t0 : Nat) : State → Prop := fun U => n0 ≤ U.heap.size ∧ va_Z "BitSolver$Sets" "BY_PLACE" "[J" (.ref t0) (fun q => n0 ≤ q) U U.heap ∧ va_T .long t0 6 (fun j => .long (wbpT j)) (fun q => n0 ≤ q) U U.heap
theorem Zt_ok {n0 t0 : Nat} : Xok (Zt n0 t0) := fun u U hvm hh h => ⟨by rw [hh]; exact h.1, by rw [hh]; exact h.2.1.moved (by rw [hvm]; exact Vm.Alike.refl _), by rw [hh]; exact h.2.2.moved (by rw [hvm]; exact Vm.Alike.refl _)⟩
theorem Zt_kept {n0 t0 : Nat} {s : State} {A : Nat → Prop} {H : Heap} {locs : List Loc} (h : Zt n0 t0 s) (hS : va_S A s.heap H locs) (hAn : ∀ q, A q → n0 ≤ q) : ∀ U : State, U.heap = H → s.WarmedH U.vm → Zt n0 t0 U := by
  intro U hU hW
  have hk : ∀ a : Nat, a < s.heap.size → ¬ n0 ≤ a → H[a]? = s.heap[a]? := fun a h1 h2 => hS.2.1 a h1 (fun z => h2 (hAn a z))
  refine ⟨by rw [hU]; exact Nat.le_trans h.1 hS.1, ?_, ?_⟩
  · rw [hU]; exact (h.2.1.moved hW.alike).kept hk
  · rw [hU]; exact (h.2.2.moved hW.alike).kept hk
theorem va_A_ge {n0 sz q : Nat} {ws : va_W} (h0 : n0 ≤ sz) (h : ∀ x ∈ ws, n0 ≤ x.1) (hq : va_A ws sz q) : n0 ≤ q := by
  rcases hq with ⟨k, e, hk⟩ | hq
  · exact h _ (List.mem_of_getElem? hk)
  · exact Nat.le_trans h0 hq
theorem Zt_A0 {n0 t0 q : Nat} {s : State} (h : Zt n0 t0 s) (hq : va_A nilW s.heap.size q) : n0 ≤ q := va_A_ge h.1 (fun _ h => absurd h List.not_mem_nil) hq
