/-! fixed, attempt, blame -/
def wD (D : Nat → Bool) : Nat → Int64 := fun i => bL (D (i / 16))
theorem wD_bit (D : Nat → Bool) (r : Nat) : pBit (wD D) r 0 = D r := by
  show (bL (D ((r * 16 + 0 / 64) / 16))).toBitVec.getLsbD (0 % 64) = D r
  rw [show (r * 16 + 0 / 64) / 16 = r by omega]
  exact bL_bit (D r) (by decide)
theorem fxW_row {pl : Nat} (w : Nat → Int64) {x : Nat} (hx : x < 1024) : ∀ k, pl + k ≤ 10 → (∀ r, r ≠ 256 → pBit (fxW pl k w) r x = pBit w r x) ∧ (∀ j, k = j + 1 → pBit (fxW pl k w) 256 x = bT x (pl + j)) := by
  intro k
  induction k with
  | zero => intro _; exact ⟨fun r _ => rfl, fun j hj => absurd hj (by omega)⟩
  | succ k ih =>
    intro hk
    obtain ⟨i1, -⟩ := ih (by omega)
    refine ⟨fun r hr => ?_, fun j hj => ?_⟩
    · show pBit (oPlace 256 (pl + k) (fxW pl k w)) r x = _
      rw [pb_place _ _ _ hx (by omega), if_neg hr]
      exact i1 r hr
    · show pBit (oPlace 256 (pl + k) (fxW pl k w)) 256 x = _
      rw [pb_place _ _ _ hx (by omega), if_pos rfl, show j = k by omega]
      rfl
def fxD (pl mr : Nat) (w : Nat → Int64) (j : Nat) : Bool := decide (pWithin (fxW pl (j + 1) w) mr 256 = true ∨ (!pNone (fxW pl (j + 1) w) mr 256) = false)
theorem fxR_v (pl mr : Nat) (w : Nat → Int64) : ∀ k, fxR pl mr w k = vbits (wD (fxD pl mr w)) 0 0 k := by
  intro k
  induction k with
  | zero => rfl
  | succ k ih =>
    show (if pWithin (fxW pl (k + 1) w) mr 256 = true ∨ (!pNone (fxW pl (k + 1) w) mr 256) = false then fxR pl mr w k ||| 2 ^ k else fxR pl mr w k) = (if pBit (wD (fxD pl mr w)) (0 + k) 0 = true then vbits (wD (fxD pl mr w)) 0 0 k ||| 2 ^ k else vbits (wD (fxD pl mr w)) 0 0 k)
    rw [ih, Nat.zero_add, wD_bit]
    by_cases c : pWithin (fxW pl (k + 1) w) mr 256 = true ∨ (!pNone (fxW pl (k + 1) w) mr 256) = false
    · rw [if_pos c, if_pos (show fxD pl mr w k = true from decide_eq_true c)]
    · rw [if_neg c, if_neg (show ¬ fxD pl mr w k = true from fun q => c (of_decide_eq_true q))]
theorem fxD_iff {pl mr j : Nat} (w : Nat → Int64) (hp : pl + j + 1 ≤ 10) (hmr : mr < 256) : fxD pl mr w j = true ↔ (∀ x, x < 1024 → pBit w mr x = true → bT x (pl + j) = true) ∨ (∀ x, x < 1024 → pBit w mr x = true → bT x (pl + j) = false) := by
  have hrow := fun x hx => fxW_row (pl := pl) w (x := x) hx (j + 1) (by omega)
  unfold fxD
  rw [decide_eq_true_iff]
  refine or_congr ?_ ?_
  · rw [pWithin_iff]
    refine forall_congr' (fun x => forall_congr' (fun hx => ?_))
    rw [(hrow x hx).1 mr (by omega), (hrow x hx).2 j rfl]
  · constructor
    · intro c x hx g
      have hn : pNone (fxW pl (j + 1) w) mr 256 = true := by
        cases hz : pNone (fxW pl (j + 1) w) mr 256 with
        | true => rfl
        | false => rw [hz] at c; cases c
      have := (pNone_iff _ _ _).mp hn x hx
      rw [(hrow x hx).1 mr (by omega), (hrow x hx).2 j rfl] at this
      cases hb : bT x (pl + j) with
      | false => rfl
      | true => exact absurd ⟨g, hb⟩ this
    · intro c
      have hn : pNone (fxW pl (j + 1) w) mr 256 = true := (pNone_iff _ _ _).mpr (fun x hx g => by
        rw [(hrow x hx).1 mr (by omega), (hrow x hx).2 j rfl] at g
        rw [c x hx g.1] at g
        exact absurd g.2 (by decide))
      rw [hn]
      rfl
theorem fin_zer : ∀ z, z < 16 → ∀ g, g < 16 → nI z &&& ((-1) - nI g) = nI (z &&& (15 - g)) := by decide +kernel
theorem fin_15 : ∀ g, g < 16 → ∀ j, j < 4 → bT (15 - g) j = !bT g j := by decide +kernel
theorem fin_15t : ∀ j, j < 4 → bT 15 j = true := by decide +kernel
section RF
variable {nv nb nt nf na lv nm : Nat} {vw vp tw ab am : Nat → Nat} {w : Nat → Int64} {tk ta : Nat → Nat} {tb tc : Nat → Int32} {fk fa : Nat → Nat} {fb : Nat → Int32} {od sd aa vl : Nat → Nat}
theorem fix_P (h : Rel nv nb nt nf na lv nm vw vp tw ab am w tk ta tb tc fk fa fb od sd aa vl) (q : Qs) {v : Nat} (hv : v < nv) {r : (Option Nat × Qs) × (Int32 × Int32)} (hr : r = itS (fun m q => nxF (mEv nv nt nf vw tk ta tb tc tw fk fa fb od) (mOk sd am na nm 0) (2 ^ nb - m) m q) (fun n _ a => (a.1 &&& nI (gvN nv vw n v), a.2 &&& ((-1) - nI (gvN nv vw n v)))) (nxF (mEv nv nt nf vw tk ta tb tc tw fk fa fb od) (mOk sd am na nm 0) (2 ^ nb - 0) 0 q) (nI 15, nI 15) 1025) :
    ∃ o z, r.2 = (nI o, nI z) ∧ o < 16 ∧ z < 16 ∧ (∀ j, j < 4 → (bT o j = true ↔ ∀ m, m < 2 ^ nb → Gd am lv nm w 0 (rp nb m) → bT (gvN nv vw m v) j = true)) ∧ (∀ j, j < 4 → (bT z j = true ↔ ∀ m, m < 2 ^ nb → Gd am lv nm w 0 (rp nb m) → bT (gvN nv vw m v) j = false)) := by
  have hb : nb ≤ 10 := h.1.2.1
  have ov := h.1.2.2.2.2.2.2.2.1 v hv
  have g16 : ∀ n, gvN nv vw n v < 16 := fun n => by
    unfold gvN
    rw [Nat.and_two_pow_sub_one_eq_mod]
    have h1 : n / 2 ^ sW vw (v + 1) (nv - (v + 1)) % 2 ^ vw v < 2 ^ vw v := Nat.mod_lt _ (Nat.two_pow_pos _)
    have h2 : 2 ^ vw v ≤ 2 ^ 4 := Nat.pow_le_pow_right (by decide) ov.2.1
    omega
  have key := itS_end (N1024 hb) (h_g h 0) (h_E h) (up := fun n _ (a : Int32 × Int32) => (a.1 &&& nI (gvN nv vw n v), a.2 &&& ((-1) - nI (gvN nv vw n v)))) (a0 := (nI 15, nI 15)) (q0 := q)
    (P := fun n a => ∃ o z, a = (nI o, nI z) ∧ o < 16 ∧ z < 16 ∧ (∀ j, j < 4 → (bT o j = true ↔ ∀ m, m < n → Gd am lv nm w 0 (rp nb m) → bT (gvN nv vw m v) j = true)) ∧ (∀ j, j < 4 → (bT z j = true ↔ ∀ m, m < n → Gd am lv nm w 0 (rp nb m) → bT (gvN nv vw m v) j = false)))
    ⟨15, 15, rfl, by decide, by decide, fun j hj => ⟨fun _ m hm => absurd hm (Nat.not_lt_zero m), fun _ => fin_15t j hj⟩, fun j hj => ⟨fun _ m hm => absurd hm (Nat.not_lt_zero m), fun _ => fin_15t j hj⟩⟩
    (fun n a _ ⟨o, z, e, ho, hz, p1, p2⟩ hg => ⟨o, z, e, ho, hz, fun j hj => (p1 j hj).trans ⟨fun c m hm g => by
        by_cases e : m = n
        · rw [e] at g; exact absurd g hg
        · exact c m (by omega) g, fun c m hm g => c m (by omega) g⟩, fun j hj => (p2 j hj).trans ⟨fun c m hm g => by
        by_cases e : m = n
        · rw [e] at g; exact absurd g hg
        · exact c m (by omega) g, fun c m hm g => c m (by omega) g⟩⟩)
    (fun n q' a hn hg hE ⟨o, z, e, ho, hz, p1, p2⟩ => by
      have hgn := g16 n
      refine ⟨o &&& gvN nv vw n v, z &&& (15 - gvN nv vw n v), ?_, Nat.lt_of_le_of_lt Nat.and_le_left ho, Nat.lt_of_le_of_lt Nat.and_le_left hz, fun j hj => ?_, fun j hj => ?_⟩
      · rw [e]
        show (nI o &&& nI (gvN nv vw n v), nI z &&& ((-1) - nI (gvN nv vw n v))) = _
        rw [n_and_t, fin_zer z hz _ hgn]
      · rw [fin_and o ho _ hgn j hj, Bool.and_eq_true, p1 j hj]
        constructor
        · intro ⟨c1, c2⟩ m hm g
          by_cases e : m = n
          · rw [e]; exact c2
          · exact c1 m (by omega) g
        · intro c
          exact ⟨fun m hm g => c m (by omega) g, c n (by omega) hg⟩
      · rw [fin_and z hz _ (by omega) j hj, Bool.and_eq_true, p2 j hj, fin_15 _ hgn j hj]
        constructor
        · intro ⟨c1, c2⟩ m hm g
          by_cases e : m = n
          · rw [e]
            cases hb2 : bT (gvN nv vw n v) j with
            | false => rfl
            | true => rw [hb2] at c2; cases c2
          · exact c1 m (by omega) g
        · intro c
          exact ⟨fun m hm g => c m (by omega) g, by rw [c n (by omega) hg]; rfl⟩)
  rw [← hr] at key
  exact key
theorem fixed_eq (h : Rel nv nb nt nf na lv nm vw vp tw ab am w tk ta tb tc fk fa fb od sd aa vl) (q : Qs) {v : Nat} (hv : v < nv) {r : (Option Nat × Qs) × (Int32 × Int32)} (hr : r = itS (fun m q => nxF (mEv nv nt nf vw tk ta tb tc tw fk fa fb od) (mOk sd am na nm 0) (2 ^ nb - m) m q) (fun n _ a => (a.1 &&& nI (gvN nv vw n v), a.2 &&& ((-1) - nI (gvN nv vw n v)))) (nxF (mEv nv nt nf vw tk ta tb tc tw fk fa fb od) (mOk sd am na nm 0) (2 ^ nb - 0) 0 q) (nI 15, nI 15) 1025) :
    nI (fxR (vp v) (250 + lv) w (vw v)) = (r.2.1 ||| r.2.2) &&& nI (2 ^ vw v - 1) := by
  have hb : nb ≤ 10 := h.1.2.1
  have b6 : lv ≤ 5 := h.1.2.2.2.2.2.1
  have ov := h.1.2.2.2.2.2.2.2.1 v hv
  obtain ⟨o, z, e, ho, hz, p1, p2⟩ := fix_P h q hv hr
  rw [e]
  show _ = (nI o ||| nI z) &&& nI (2 ^ vw v - 1)
  rw [n_or_t, n_and_t, Nat.and_two_pow_sub_one_eq_mod, fxR_v]
  congr 1
  have hgb : ∀ x j, j < vw v → bT (x / 2 ^ vp v % 2 ^ vw v) j = bT x (vp v + j) := fun x j hj => by
    rw [bT_mod _ hj]
    unfold bT
    rw [Nat.div_div_eq_div_mul, ← Nat.pow_add]
  have hg : ∀ x, x < 1024 → gvN nv vw (x / 2 ^ (10 - nb)) v = x / 2 ^ vp v % 2 ^ vw v := fun x _ => gvN_gX h hv x
  refine vb_of _ _ _ _ _ (fun j hj => ?_)
  rw [Nat.zero_add, wD_bit, fin_or o ho z hz j (by omega)]
  have tr : ∀ b : Bool, (∀ m, m < 2 ^ nb → Gd am lv nm w 0 (rp nb m) → bT (gvN nv vw m v) j = b) ↔ (∀ x, x < 1024 → pBit w (250 + lv) x = true → bT x (vp v + j) = b) := by
    intro b
    constructor
    · intro c x hx g
      have := c (x / 2 ^ (10 - nb)) (div_lt hb hx) ((Gd_rep h hx 0).mp (Gd_0.mpr g))
      rw [hg x hx, hgb x j hj] at this
      exact this
    · intro c m hm g
      have hrp := rep_div hb hm
      have h1 := hg (rp nb m) hrp.1
      rw [hrp.2] at h1
      rw [h1, hgb _ j hj]
      exact c (rp nb m) hrp.1 (Gd_0.mp g)
  have hD := fxD_iff (pl := vp v) (mr := 250 + lv) (j := j) w (by omega) (by omega)
  have q1 := (p1 j (by omega)).trans (tr true)
  have q2 := (p2 j (by omega)).trans (tr false)
  cases hd : fxD (vp v) (250 + lv) w j with
  | true =>
    rcases hD.mp hd with c | c
    · rw [q1.mpr c]; rfl
    · rw [q2.mpr c, Bool.or_true]
  | false =>
    have hn : ¬ fxD (vp v) (250 + lv) w j = true := by rw [hd]; decide
    rw [hD] at hn
    have n1 : bT o j = false := Bool.eq_false_iff.mpr (fun c => hn (Or.inl (q1.mp c)))
    have n2 : bT z j = false := Bool.eq_false_iff.mpr (fun c => hn (Or.inr (q2.mp c)))
    rw [n1, n2]
    rfl
theorem fxW_low (w : Nat → Int64) (pl k : Nat) (hk : pl + k ≤ 10) : ∀ r, r < 256 → ∀ x, x < 1024 → pBit (fxW pl k w) r x = pBit w r x := fun r hr x hx => (fxW_row w hx k hk).1 r (by omega)
/-- the working row of the chosen assumptions -/
theorem oAsm_row {am : Nat → Nat} {P : Nat} (w : Nat → Int64) {x : Nat} (hx : x < 1024) : ∀ k, (∀ i, i < k → am i < 256) → (∀ r, r ≠ 256 → pBit (oAsm am P k w) r x = pBit w r x) ∧ (pBit (oAsm am P k w) 256 x = true ↔ pBit w 256 x = true ∧ ∀ i, i < k → ¬ P / 2 ^ i % 2 = 0 → pBit w (am i) x = true) := by
  intro k
  induction k with
  | zero => intro _; exact ⟨fun r _ => rfl, ⟨fun g => ⟨g, fun i hi => absurd hi (Nat.not_lt_zero i)⟩, fun g => g.1⟩⟩
  | succ k ih =>
    intro ha
    obtain ⟨i1, i2⟩ := ih (fun i hi => ha i (by omega))
    have hak := ha k (by omega)
    by_cases c : P / 2 ^ k % 2 = 1
    · have e : oAsm am P (k + 1) w = oAnd 256 256 (am k) 1 (oAsm am P k w) := if_pos c
      rw [e]
      refine ⟨fun r hr => by rw [pb_and1 _ _ _ _ hx, if_neg hr]; exact i1 r hr, ?_⟩
      rw [pb_and1 _ _ _ _ hx, if_pos rfl, Bool.and_eq_true, i2, i1 (am k) (by omega)]
      constructor
      · intro ⟨⟨g1, g2⟩, g3⟩
        refine ⟨g1, fun i hi hs => ?_⟩
        by_cases e : i = k
        · rw [e]; exact g3
        · exact g2 i (by omega) hs
      · intro ⟨g1, g2⟩
        exact ⟨⟨g1, fun i hi hs => g2 i (by omega) hs⟩, g2 k (by omega) (by omega)⟩
    · have e : oAsm am P (k + 1) w = oAsm am P k w := if_neg c
      rw [e]
      refine ⟨i1, i2.trans ⟨fun g => ⟨g.1, fun i hi hs => ?_⟩, fun g => ⟨g.1, fun i hi hs => g.2 i (by omega) hs⟩⟩⟩
      by_cases e : i = k
      · rw [e] at hs
        have := Nat.mod_lt (P / 2 ^ k) (show 0 < 2 by decide)
        omega
      · exact g.2 i (by omega) hs
theorem wAsm_row (hlv : lv ≤ 5) (ha : ∀ i, i < nm → am i < 256) (P : Nat) (w : Nat → Int64) {x : Nat} (hx : x < 1024) : (∀ r, r ≠ 256 → pBit (wAsm am lv nm P w) r x = pBit w r x) ∧ (pBit (wAsm am lv nm P w) 256 x = true ↔ Gd am lv nm w P x) := by
  obtain ⟨i1, i2⟩ := oAsm_row (am := am) (P := P) (oCopy 256 (250 + lv) 1 w) hx nm ha
  refine ⟨fun r hr => ?_, ?_⟩
  · show pBit (oAsm am P nm (oCopy 256 (250 + lv) 1 w)) r x = _
    rw [i1 r hr, pb_copy1 _ _ _ hx, if_neg hr]
  · show pBit (oAsm am P nm (oCopy 256 (250 + lv) 1 w)) 256 x = true ↔ _
    rw [i2, pb_copy1 _ _ _ hx, if_pos rfl]
    unfold Gd
    refine and_congr Iff.rfl ?_
    constructor
    · intro g i hi hs
      have := g i hi hs
      rw [pb_copy1 _ _ _ hx, if_neg (by have := ha i hi; omega)] at this
      exact this
    · intro g i hi hs
      rw [pb_copy1 _ _ _ hx, if_neg (by have := ha i hi; omega)]
      exact g i hi hs
theorem pCan_iff (hlv : lv ≤ 5) (ha : ∀ i, i < nm → am i < 256) (P : Nat) (w : Nat → Int64) : pCan am lv nm P w = true ↔ ∃ x, x < 1024 ∧ Gd am lv nm w P x := by
  unfold pCan
  constructor
  · intro g
    have h1 : ¬ pNone (wAsm am lv nm P w) 256 256 = true := fun q => by rw [q] at g; cases g
    rw [pNone_iff] at h1
    apply Classical.byContradiction
    intro h2
    exact h1 (fun x hx q => h2 ⟨x, hx, (wAsm_row hlv ha P w hx).2.mp q.1⟩)
  · intro ⟨x, hx, g⟩
    have g2 := (wAsm_row hlv ha P w hx).2.mpr g
    cases hq : pNone (wAsm am lv nm P w) 256 256 with
    | false => rfl
    | true => exact absurd ⟨g2, g2⟩ ((pNone_iff _ _ _).mp hq x hx)
theorem Gd_rows (hlv : lv ≤ 5) (ha : ∀ i, i < nm → am i < 256) {w' : Nat → Int64} (hw : ∀ r, r < 256 → ∀ x, x < 1024 → pBit w' r x = pBit w r x) {x P : Nat} (hx : x < 1024) : Gd am lv nm w' P x ↔ Gd am lv nm w P x := by
  unfold Gd
  rw [hw (250 + lv) (by omega) x hx]
  refine and_congr Iff.rfl ⟨fun g i hi hs => ?_, fun g i hi hs => ?_⟩
  · rw [← hw (am i) (ha i hi) x hx]; exact g i hi hs
  · rw [hw (am i) (ha i hi) x hx]; exact g i hi hs
theorem can_nx (h : Rel nv nb nt nf na lv nm vw vp tw ab am w tk ta tb tc fk fa fb od sd aa vl) (S : Nat) (q : Qs) {w' : Nat → Int64} (hw : ∀ r, r < 256 → ∀ x, x < 1024 → pBit w' r x = pBit w r x) : pCan am lv nm S w' = (nxF (mEv nv nt nf vw tk ta tb tc tw fk fa fb od) (mOk sd am na nm S) (2 ^ nb - 0) 0 q).1.isSome := by
  have b6 : lv ≤ 5 := h.1.2.2.2.2.2.1
  have b4 : nf ≤ 50 := h.1.2.2.2.1
  have ha : ∀ i, i < nm → am i < 256 := fun i hi => by have := h.1.2.2.2.2.2.2.2.2.2.1 i hi; omega
  rcases nx_all h S q with ⟨a1, a2⟩ | ⟨n, a1, a2, a3, a4, a5, a6⟩
  · rw [a1]
    refine Bool.eq_false_iff.mpr (fun c => ?_)
    obtain ⟨x, hx, g⟩ := (pCan_iff b6 ha S w').mp c
    exact a2 x hx ((Gd_rows b6 ha hw hx).mp g)
  · rw [a1]
    exact (pCan_iff b6 ha S w').mpr ⟨rp nb n, a3, (Gd_rows b6 ha hw a3).mpr a4⟩
/-- all assumptions: the same with all bits set and with 255 -/
theorem mOk_255 (hm : nm ≤ 8) (ho : Nat → Bool) : mOk sd am na nm 255 ho = mOk sd am na nm (2 ^ nm - 1) ho := by
  have key : ∀ nm, nm < 9 → ∀ i, i < 8 → i < nm → 255 / 2 ^ i % 2 = 1 ∧ (2 ^ nm - 1) / 2 ^ i % 2 = 1 := by decide +kernel
  have e : mOk sd am na nm 255 ho = true ↔ mOk sd am na nm (2 ^ nm - 1) ho = true := by
    rw [mOk_iff, mOk_iff]
    refine and_congr Iff.rfl ⟨fun g i hi hs => g i hi (by have := (key nm (by omega) i (by omega) hi).1; omega), fun g i hi hs => g i hi (by have := (key nm (by omega) i (by omega) hi).2; omega)⟩
  cases h1 : mOk sd am na nm 255 ho with
  | true => exact (e.mp h1).symm
  | false =>
    cases h2 : mOk sd am na nm (2 ^ nm - 1) ho with
    | false => rfl
    | true => rw [e.mpr h2] at h1; cases h1
theorem attempt_eq (h : Rel nv nb nt nf na lv nm vw vp tw ab am w tk ta tb tc fk fa fb od sd aa vl) (q : Qs) : pCan am lv nm (2 ^ nm - 1) w = (nxF (mEv nv nt nf vw tk ta tb tc tw fk fa fb od) (mOk sd am na nm 255) (2 ^ nb - 0) 0 q).1.isSome := by
  have b7 : nm ≤ 8 := h.1.2.2.2.2.2.2.1
  rw [show mOk sd am na nm 255 = mOk sd am na nm (2 ^ nm - 1) from funext (fun ho => mOk_255 b7 ho)]
  exact can_nx h (2 ^ nm - 1) q (fun _ _ _ _ => rfl)
theorem wAsm_low (h : Rel nv nb nt nf na lv nm vw vp tw ab am w tk ta tb tc fk fa fb od sd aa vl) (P : Nat) {w' : Nat → Int64} (hw : ∀ r, r < 256 → ∀ x, x < 1024 → pBit w' r x = pBit w r x) : ∀ r, r < 256 → ∀ x, x < 1024 → pBit (wAsm am lv nm P w') r x = pBit w r x := by
  have b6 : lv ≤ 5 := h.1.2.2.2.2.2.1
  have b4 : nf ≤ 50 := h.1.2.2.2.1
  have ha : ∀ i, i < nm → am i < 256 := fun i hi => by have := h.1.2.2.2.2.2.2.2.2.2.1 i hi; omega
  intro r hr x hx
  rw [(wAsm_row b6 ha P w' hx).1 r (by omega), hw r hr x hx]
theorem blame_inv (h : Rel nv nb nt nf na lv nm vw vp tw ab am w tk ta tb tc fk fa fb od sd aa vl) (q : Qs) (L : Nat) {w1 : Nat → Int64} (hw : ∀ r, r < 256 → ∀ x, x < 1024 → pBit w1 r x = pBit w r x) : ∀ k, (blS am lv nm k (w1, L)).2 = (mbl (mEv nv nt nf vw tk ta tb tc tw fk fa fb od) (fun S => mOk sd am na nm S) (2 ^ nb - 0) k (q, L)).2 ∧ ∀ r, r < 256 → ∀ x, x < 1024 → pBit (blS am lv nm k (w1, L)).1 r x = pBit w r x := by
  intro k
  induction k with
  | zero => exact ⟨rfl, hw⟩
  | succ k ih =>
    obtain ⟨i1, i2⟩ := ih
    have hc := can_nx h (clrB (blS am lv nm k (w1, L)).2 k) (mbl (mEv nv nt nf vw tk ta tb tc tw fk fa fb od) (fun S => mOk sd am na nm S) (2 ^ nb - 0) k (q, L)).1 i2
    refine ⟨?_, ?_⟩
    · show (if pCan am lv nm (clrB (blS am lv nm k (w1, L)).2 k) (blS am lv nm k (w1, L)).1 = true then (blS am lv nm k (w1, L)).2 else clrB (blS am lv nm k (w1, L)).2 k) = (if (nxF (mEv nv nt nf vw tk ta tb tc tw fk fa fb od) (mOk sd am na nm (clrB (mbl (mEv nv nt nf vw tk ta tb tc tw fk fa fb od) (fun S => mOk sd am na nm S) (2 ^ nb - 0) k (q, L)).2 k)) (2 ^ nb - 0) 0 (mbl (mEv nv nt nf vw tk ta tb tc tw fk fa fb od) (fun S => mOk sd am na nm S) (2 ^ nb - 0) k (q, L)).1).1 = none then clrB (mbl (mEv nv nt nf vw tk ta tb tc tw fk fa fb od) (fun S => mOk sd am na nm S) (2 ^ nb - 0) k (q, L)).2 k else (mbl (mEv nv nt nf vw tk ta tb tc tw fk fa fb od) (fun S => mOk sd am na nm S) (2 ^ nb - 0) k (q, L)).2)
      rw [hc, ← i1]
      cases hz : (nxF (mEv nv nt nf vw tk ta tb tc tw fk fa fb od) (mOk sd am na nm (clrB (blS am lv nm k (w1, L)).2 k)) (2 ^ nb - 0) 0 (mbl (mEv nv nt nf vw tk ta tb tc tw fk fa fb od) (fun S => mOk sd am na nm S) (2 ^ nb - 0) k (q, L)).1).1 with
      | none => rw [if_neg (by decide), if_pos rfl]
      | some n => rw [if_pos (show (some n).isSome = true from rfl), if_neg (show ¬ some n = none from fun c => nomatch c)]
    · exact wAsm_low h _ i2
end RF
