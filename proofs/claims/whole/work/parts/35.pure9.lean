/-! the questions: what the solver's rows answer is what the reference's search answers -/
section RQ
variable {nv nb nt nf na lv nm : Nat} {vw vp tw ab am : Nat → Nat} {w : Nat → Int64} {tk ta : Nat → Nat} {tb tc : Nat → Int32} {fk fa : Nat → Nat} {fb : Nat → Int32} {od sd aa vl : Nat → Nat}
abbrev rp (nb n : Nat) : Nat := n * 2 ^ (10 - nb)
def Ev (nb nt nf : Nat) (tw : Nat → Nat) (w : Nat → Int64) (n : Nat) (q : Qs) : Prop := (∀ t, t < nt → q.1 t = VX tw w (rp nb n) t) ∧ (∀ f, f < nf → q.2 f = HX w (rp nb n) f)
theorem h_g (h : Rel nv nb nt nf na lv nm vw vp tw ab am w tk ta tb tc fk fa fb od sd aa vl) (S : Nat) : ∀ n q, n < 2 ^ nb → (mOk sd am na nm S (mEv nv nt nf vw tk ta tb tc tw fk fa fb od n q).2 = true ↔ Gd am lv nm w S (rp nb n)) := by
  intro n q hn
  have hb : nb ≤ 10 := h.1.2.1
  have hr := rep_div hb hn
  have := ok_Gd h hr.1 q S
  rw [hr.2] at this
  exact this
theorem h_E (h : Rel nv nb nt nf na lv nm vw vp tw ab am w tk ta tb tc fk fa fb od sd aa vl) : ∀ n q, n < 2 ^ nb → Ev nb nt nf tw w n (mEv nv nt nf vw tk ta tb tc tw fk fa fb od n q) := by
  intro n q hn
  have hb : nb ≤ 10 := h.1.2.1
  have hr := rep_div hb hn
  have := ev_all h hr.1 q
  rw [hr.2] at this
  exact this
theorem Gd_rep (h : Rel nv nb nt nf na lv nm vw vp tw ab am w tk ta tb tc fk fa fb od sd aa vl) {x : Nat} (hx : x < 1024) (S : Nat) : Gd am lv nm w S x ↔ Gd am lv nm w S (rp nb (x / 2 ^ (10 - nb))) := by
  have hb : nb ≤ 10 := h.1.2.1
  have hr := rep_div hb (div_lt hb hx)
  exact Gd_same h hx hr.1 hr.2.symm S
theorem nx_all (h : Rel nv nb nt nf na lv nm vw vp tw ab am w tk ta tb tc fk fa fb od sd aa vl) (S : Nat) (q : Qs) :
    ((nxF (mEv nv nt nf vw tk ta tb tc tw fk fa fb od) (mOk sd am na nm S) (2 ^ nb - 0) 0 q).1 = none ∧ ∀ x, x < 1024 → ¬ Gd am lv nm w S x) ∨ ∃ n, (nxF (mEv nv nt nf vw tk ta tb tc tw fk fa fb od) (mOk sd am na nm S) (2 ^ nb - 0) 0 q).1 = some n ∧ n < 2 ^ nb ∧ rp nb n < 1024 ∧ Gd am lv nm w S (rp nb n) ∧ (∀ x, x < rp nb n → ¬ Gd am lv nm w S x) ∧ Ev nb nt nf tw w n (nxF (mEv nv nt nf vw tk ta tb tc tw fk fa fb od) (mOk sd am na nm S) (2 ^ nb - 0) 0 q).2 := by
  have hb : nb ≤ 10 := h.1.2.1
  rcases nxF_spec (h_g h S) (h_E h) (2 ^ nb - 0) 0 q (by rw [Nat.zero_add, Nat.sub_zero]; exact Nat.le_refl _) with ⟨a1, a2⟩ | ⟨m, a1, a2, a3, a4, a5, a6⟩
  · refine Or.inl ⟨a1, fun x hx g => ?_⟩
    have := div_lt hb hx
    exact a2 (x / 2 ^ (10 - nb)) (Nat.zero_le _) (by omega) ((Gd_rep h hx S).mp g)
  · have hm : m < 2 ^ nb := by omega
    have hr := rep_div hb hm
    refine Or.inr ⟨m, a1, hm, hr.1, a4, fun x hx g => ?_, a6⟩
    have hx2 : x < 1024 := Nat.lt_trans hx hr.1
    have hd : x / 2 ^ (10 - nb) < m := Nat.div_lt_of_lt_mul (by rw [Nat.mul_comm]; exact hx)
    exact a5 (x / 2 ^ (10 - nb)) (Nat.zero_le _) hd ((Gd_rep h hx2 S).mp g)
theorem Gd_0 {x : Nat} : Gd am lv nm w 0 x ↔ pBit w (250 + lv) x = true := ⟨fun g => g.1, fun g => ⟨g, fun i _ hs => absurd (by rw [Nat.zero_div]) hs⟩⟩
theorem hasM_iff : (!pNone w (250 + lv) (250 + lv)) = true ↔ ∃ x, x < 1024 ∧ Gd am lv nm w 0 x := by
  constructor
  · intro g
    have h1 : ¬ pNone w (250 + lv) (250 + lv) = true := fun q => by rw [q] at g; cases g
    rw [pNone_iff] at h1
    apply Classical.byContradiction
    intro h2
    exact h1 (fun x hx q => h2 ⟨x, hx, Gd_0.mpr q.1⟩)
  · intro ⟨x, hx, g⟩
    cases hq : pNone w (250 + lv) (250 + lv) with
    | false => rfl
    | true => exact absurd ⟨Gd_0.mp g, Gd_0.mp g⟩ ((pNone_iff w _ _).mp hq x hx)
theorem check_eq (h : Rel nv nb nt nf na lv nm vw vp tw ab am w tk ta tb tc fk fa fb od sd aa vl) (q : Qs) : (!pNone w (250 + lv) (250 + lv)) = (nxF (mEv nv nt nf vw tk ta tb tc tw fk fa fb od) (mOk sd am na nm 0) (2 ^ nb - 0) 0 q).1.isSome := by
  rcases nx_all h 0 q with ⟨a1, a2⟩ | ⟨n, a1, a2, a3, a4, a5, a6⟩
  · rw [a1]
    cases hq : (!pNone w (250 + lv) (250 + lv)) with
    | false => rfl
    | true =>
      obtain ⟨x, hx, g⟩ := (hasM_iff (am := am) (nm := nm)).mp hq
      exact absurd g (a2 x hx)
  · rw [a1]
    exact (hasM_iff (am := am) (nm := nm)).mpr ⟨rp nb n, a3, a4⟩
theorem model_some (h : Rel nv nb nt nf na lv nm vw vp tw ab am w tk ta tb tc fk fa fb od sd aa vl) (q : Qs) (hm : (!pNone w (250 + lv) (250 + lv)) = true) : ∃ n, (nxF (mEv nv nt nf vw tk ta tb tc tw fk fa fb od) (mOk sd am na nm 0) (2 ^ nb - 0) 0 q).1 = some n ∧ n < 2 ^ nb ∧ pLow w (250 + lv) = rp nb n ∧ rp nb n < 1024 ∧ Ev nb nt nf tw w n (nxF (mEv nv nt nf vw tk ta tb tc tw fk fa fb od) (mOk sd am na nm 0) (2 ^ nb - 0) 0 q).2 := by
  rcases nx_all h 0 q with ⟨a1, a2⟩ | ⟨n, a1, a2, a3, a4, a5, a6⟩
  · obtain ⟨x, hx, g⟩ := (hasM_iff (am := am) (nm := nm)).mp hm
    exact absurd g (a2 x hx)
  · refine ⟨n, a1, a2, ?_, a3, a6⟩
    have hp := pLow_spec (w := w) (r := 250 + lv) ⟨rp nb n, a3, Gd_0.mp a4⟩
    rcases Nat.lt_trichotomy (pLow w (250 + lv)) (rp nb n) with c | c | c
    · exact absurd (Gd_0.mpr hp.1) (a5 _ c)
    · exact c
    · have := hp.2 _ c
      rw [Gd_0.mp a4] at this
      cases this
theorem model_none (h : Rel nv nb nt nf na lv nm vw vp tw ab am w tk ta tb tc fk fa fb od sd aa vl) (q : Qs) (hm : (!pNone w (250 + lv) (250 + lv)) = false) : (nxF (mEv nv nt nf vw tk ta tb tc tw fk fa fb od) (mOk sd am na nm 0) (2 ^ nb - 0) 0 q).1 = none ∧ ∀ x, x < 1024 → ¬ Gd am lv nm w 0 x := by
  rcases nx_all h 0 q with a | ⟨n, a1, a2, a3, a4, a5, a6⟩
  · exact a
  · have := (hasM_iff (w := w) (lv := lv) (am := am) (nm := nm)).mpr ⟨rp nb n, a3, a4⟩
    rw [hm] at this
    cases this
theorem value_eq (h : Rel nv nb nt nf na lv nm vw vp tw ab am w tk ta tb tc fk fa fb od sd aa vl) {v n : Nat} (hv : v < nv) (hn : n < 2 ^ nb) (hp : pLow w (250 + lv) = rp nb n) : (pLow w (250 + lv) / 2 ^ vp v &&& 2 ^ vw v - 1) = gvN nv vw n v := by
  have hb : nb ≤ 10 := h.1.2.1
  have hr := rep_div hb hn
  have hg := gvN_gX h hv (rp nb n)
  rw [hr.2] at hg
  rw [hg, hp, Nat.and_two_pow_sub_one_eq_mod]
theorem N1024 (h : nb ≤ 10) : 2 ^ nb ≤ 1024 := show 2 ^ nb ≤ 2 ^ 10 from Nat.pow_le_pow_right (by decide) h
/-- entailed -/
theorem ent_P (h : Rel nv nb nt nf na lv nm vw vp tw ab am w tk ta tb tc fk fa fb od sd aa vl) (q : Qs) {f : Nat} (hf : f < nf) {r : (Option Nat × Qs) × (Bool × Bool)} (hr : r = itS (fun m q => nxF (mEv nv nt nf vw tk ta tb tc tw fk fa fb od) (mOk sd am na nm 0) (2 ^ nb - m) m q) (fun _ q a => (a.1 || q.2 f, a.2 || !q.2 f)) (nxF (mEv nv nt nf vw tk ta tb tc tw fk fa fb od) (mOk sd am na nm 0) (2 ^ nb - 0) 0 q) (false, false) 1025) :
    (r.2.1 = true ↔ ∃ x, x < 1024 ∧ Gd am lv nm w 0 x ∧ pBit w f x = true) ∧ (r.2.2 = true ↔ ∃ x, x < 1024 ∧ Gd am lv nm w 0 x ∧ pBit w f x = false) := by
  have hb : nb ≤ 10 := h.1.2.1
  have key := itS_end (N1024 hb) (h_g h 0) (h_E h) (up := fun _ q (a : Bool × Bool) => (a.1 || q.2 f, a.2 || !q.2 f)) (a0 := (false, false)) (q0 := q)
    (P := fun n a => (a.1 = true ↔ ∃ m, m < n ∧ Gd am lv nm w 0 (rp nb m) ∧ pBit w f (rp nb m) = true) ∧ (a.2 = true ↔ ∃ m, m < n ∧ Gd am lv nm w 0 (rp nb m) ∧ pBit w f (rp nb m) = false))
    ⟨⟨fun q => (by cases q), fun ⟨m, hm, _⟩ => absurd hm (Nat.not_lt_zero m)⟩, ⟨fun q => (by cases q), fun ⟨m, hm, _⟩ => absurd hm (Nat.not_lt_zero m)⟩⟩
    (fun n a _ ⟨p1, p2⟩ hg => ⟨p1.trans ⟨fun ⟨m, c1, c2⟩ => ⟨m, by omega, c2⟩, fun ⟨m, c1, c2⟩ => ⟨m, by
        by_cases e : m = n
        · rw [e] at c2; exact absurd c2.1 hg
        · omega, c2⟩⟩, p2.trans ⟨fun ⟨m, c1, c2⟩ => ⟨m, by omega, c2⟩, fun ⟨m, c1, c2⟩ => ⟨m, by
        by_cases e : m = n
        · rw [e] at c2; exact absurd c2.1 hg
        · omega, c2⟩⟩⟩)
    (fun n q' a hn hg hE ⟨p1, p2⟩ => by
      have hq : q'.2 f = pBit w f (rp nb n) := hE.2 f hf
      refine ⟨?_, ?_⟩
      · show (a.1 || q'.2 f) = true ↔ _
        rw [Bool.or_eq_true, p1, hq]
        constructor
        · intro c
          rcases c with ⟨m, c1, c2⟩ | c
          · exact ⟨m, by omega, c2⟩
          · exact ⟨n, by omega, hg, c⟩
        · intro ⟨m, c1, c2⟩
          by_cases e : m = n
          · rw [e] at c2; exact Or.inr c2.2
          · exact Or.inl ⟨m, by omega, c2⟩
      · show (a.2 || !q'.2 f) = true ↔ _
        rw [Bool.or_eq_true, p2, hq]
        constructor
        · intro c
          rcases c with ⟨m, c1, c2⟩ | c
          · exact ⟨m, by omega, c2⟩
          · exact ⟨n, by omega, hg, by cases hz : pBit w f (rp nb n) with
            | false => rfl
            | true => rw [hz] at c; cases c⟩
        · intro ⟨m, c1, c2⟩
          by_cases e : m = n
          · rw [e] at c2; exact Or.inr (by rw [c2.2]; rfl)
          · exact Or.inl ⟨m, by omega, c2⟩)
  rw [← hr] at key
  have tr : ∀ (b : Bool), (∃ m, m < 2 ^ nb ∧ Gd am lv nm w 0 (rp nb m) ∧ pBit w f (rp nb m) = b) ↔ ∃ x, x < 1024 ∧ Gd am lv nm w 0 x ∧ pBit w f x = b := by
    intro b
    constructor
    · intro ⟨m, c1, c2, c3⟩
      exact ⟨rp nb m, (rep_div hb c1).1, c2, c3⟩
    · intro ⟨x, c1, c2, c3⟩
      have hd := div_lt hb c1
      have hr := rep_div hb hd
      refine ⟨x / 2 ^ (10 - nb), hd, (Gd_rep h c1 0).mp c2, ?_⟩
      rw [← c3]
      exact ((rows_same h c1 hr.1 hr.2.symm).2 f hf).symm
  exact ⟨key.1.trans (tr true), key.2.trans (tr false)⟩
theorem ent_eq (h : Rel nv nb nt nf na lv nm vw vp tw ab am w tk ta tb tc fk fa fb od sd aa vl) (q : Qs) {f : Nat} (hf : f < nf) (hm : (!pNone w (250 + lv) (250 + lv)) = true) {r : (Option Nat × Qs) × (Bool × Bool)} (hr : r = itS (fun m q => nxF (mEv nv nt nf vw tk ta tb tc tw fk fa fb od) (mOk sd am na nm 0) (2 ^ nb - m) m q) (fun _ q a => (a.1 || q.2 f, a.2 || !q.2 f)) (nxF (mEv nv nt nf vw tk ta tb tc tw fk fa fb od) (mOk sd am na nm 0) (2 ^ nb - 0) 0 q) (false, false) 1025) :
    (r.2.1 = true ∨ r.2.2 = true) ∧ (if pWithin w (250 + lv) f = true then 1 else if (!pNone w (250 + lv) f) = true then 2 else 0) = (if r.2.1 = true then (if r.2.2 = true then 2 else 1) else 0) := by
  have hP : (r.2.1 = true ↔ ∃ x, x < 1024 ∧ Gd am lv nm w 0 x ∧ pBit w f x = true) ∧ (r.2.2 = true ↔ ∃ x, x < 1024 ∧ Gd am lv nm w 0 x ∧ pBit w f x = false) := ent_P h q hf hr
  obtain ⟨x0, hx0, g0⟩ := (hasM_iff (am := am) (nm := nm)).mp hm
  refine ⟨?_, ?_⟩
  · cases hz : pBit w f x0 with
    | true => exact Or.inl (hP.1.mpr ⟨x0, hx0, g0, hz⟩)
    | false => exact Or.inr (hP.2.mpr ⟨x0, hx0, g0, hz⟩)
  · by_cases hw : pWithin w (250 + lv) f = true
    · have hall := (pWithin_iff w _ _).mp hw
      rw [if_pos hw, if_pos (hP.1.mpr ⟨x0, hx0, g0, hall x0 hx0 (Gd_0.mp g0)⟩), if_neg (fun c => by
        obtain ⟨x, c1, c2, c3⟩ := hP.2.mp c
        rw [hall x c1 (Gd_0.mp c2)] at c3
        cases c3)]
    · have hno : r.2.2 = true := hP.2.mpr (by
        apply Classical.byContradiction
        intro hc
        refine hw ((pWithin_iff w _ _).mpr (fun x hx g => ?_))
        cases hz : pBit w f x with
        | true => rfl
        | false => exact absurd ⟨x, hx, Gd_0.mpr g, hz⟩ hc)
      rw [if_neg hw, if_pos hno]
      by_cases hy : r.2.1 = true
      · obtain ⟨x, c1, c2, c3⟩ := hP.1.mp hy
        rw [if_pos hy, if_pos]
        cases hz : pNone w (250 + lv) f with
        | false => rfl
        | true => exact absurd ⟨Gd_0.mp c2, c3⟩ ((pNone_iff w _ _).mp hz x c1)
      · rw [if_neg hy, if_neg]
        intro hc
        refine hy (hP.1.mpr ?_)
        apply Classical.byContradiction
        intro hn
        have : pNone w (250 + lv) f = true := (pNone_iff w _ _).mpr (fun x hx g => hn ⟨x, hx, Gd_0.mpr g.1, g.2⟩)
        rw [this] at hc
        cases hc
theorem ent_none (h : Rel nv nb nt nf na lv nm vw vp tw ab am w tk ta tb tc fk fa fb od sd aa vl) (q : Qs) {f : Nat} (hf : f < nf) (hm : (!pNone w (250 + lv) (250 + lv)) = false) {r : (Option Nat × Qs) × (Bool × Bool)} (hr : r = itS (fun m q => nxF (mEv nv nt nf vw tk ta tb tc tw fk fa fb od) (mOk sd am na nm 0) (2 ^ nb - m) m q) (fun _ q a => (a.1 || q.2 f, a.2 || !q.2 f)) (nxF (mEv nv nt nf vw tk ta tb tc tw fk fa fb od) (mOk sd am na nm 0) (2 ^ nb - 0) 0 q) (false, false) 1025) :
    r.2.1 = false ∧ r.2.2 = false := by
  have hP : (r.2.1 = true ↔ ∃ x, x < 1024 ∧ Gd am lv nm w 0 x ∧ pBit w f x = true) ∧ (r.2.2 = true ↔ ∃ x, x < 1024 ∧ Gd am lv nm w 0 x ∧ pBit w f x = false) := ent_P h q hf hr
  have hn := (model_none h q hm).2
  exact ⟨Bool.eq_false_iff.mpr (fun c => by obtain ⟨x, c1, c2, -⟩ := hP.1.mp c; exact hn x c1 c2), Bool.eq_false_iff.mpr (fun c => by obtain ⟨x, c1, c2, -⟩ := hP.2.mp c; exact hn x c1 c2)⟩
/-- least, the reference's side -/
theorem least_P (h : Rel nv nb nt nf na lv nm vw vp tw ab am w tk ta tb tc fk fa fb od sd aa vl) (q : Qs) {t : Nat} (ht : t < nt) :
    let r := itS (fun m q => nxF (mEv nv nt nf vw tk ta tb tc tw fk fa fb od) (mOk sd am na nm 0) (2 ^ nb - m) m q) (fun _ q b => if q.1 t < b then q.1 t else b) (nxF (mEv nv nt nf vw tk ta tb tc tw fk fa fb od) (mOk sd am na nm 0) (2 ^ nb - 0) 0 q) 16 1025
    (∀ x, x < 1024 → Gd am lv nm w 0 x → r.2 ≤ VX tw w x t) ∧ (r.2 = 16 ∨ ∃ x, x < 1024 ∧ Gd am lv nm w 0 x ∧ VX tw w x t = r.2) := by
  have hb : nb ≤ 10 := h.1.2.1
  have key := itS_end (N1024 hb) (h_g h 0) (h_E h) (up := fun _ q (b : Nat) => if q.1 t < b then q.1 t else b) (a0 := 16) (q0 := q)
    (P := fun n b => (∀ m, m < n → Gd am lv nm w 0 (rp nb m) → b ≤ VX tw w (rp nb m) t) ∧ (b = 16 ∨ ∃ m, m < n ∧ Gd am lv nm w 0 (rp nb m) ∧ VX tw w (rp nb m) t = b))
    ⟨fun m hm => absurd hm (Nat.not_lt_zero m), Or.inl rfl⟩
    (fun n b _ ⟨p1, p2⟩ hg => ⟨fun m hm g => by
        by_cases e : m = n
        · rw [e] at g; exact absurd g hg
        · exact p1 m (by omega) g, p2.imp id (fun ⟨m, c1, c2⟩ => ⟨m, by omega, c2⟩)⟩)
    (fun n q' b hn hg hE ⟨p1, p2⟩ => by
      have hq : q'.1 t = VX tw w (rp nb n) t := hE.1 t ht
      show (∀ m, m < n + 1 → Gd am lv nm w 0 (rp nb m) → (if q'.1 t < b then q'.1 t else b) ≤ VX tw w (rp nb m) t) ∧ ((if q'.1 t < b then q'.1 t else b) = 16 ∨ ∃ m, m < n + 1 ∧ Gd am lv nm w 0 (rp nb m) ∧ VX tw w (rp nb m) t = (if q'.1 t < b then q'.1 t else b))
      by_cases hl : q'.1 t < b
      · rw [if_pos hl, hq]
        rw [hq] at hl
        refine ⟨fun m hm g => ?_, Or.inr ⟨n, by omega, hg, rfl⟩⟩
        by_cases e : m = n
        · rw [e]; exact Nat.le_refl _
        · exact Nat.le_trans (Nat.le_of_lt hl) (p1 m (by omega) g)
      · rw [if_neg hl]
        rw [hq] at hl
        refine ⟨fun m hm g => ?_, p2.imp id (fun ⟨m, c1, c2⟩ => ⟨m, by omega, c2⟩)⟩
        by_cases e : m = n
        · rw [e]; exact Nat.le_of_not_lt hl
        · exact p1 m (by omega) g)
  intro r
  refine ⟨fun x hx g => ?_, key.2.imp id (fun ⟨m, c1, c2, c3⟩ => ⟨rp nb m, (rep_div hb c1).1, c2, c3⟩)⟩
  have hd := div_lt hb hx
  have hr := rep_div hb hd
  rw [(rows_same h hx hr.1 hr.2.symm).1 t ht]
  exact key.1 _ hd ((Gd_rep h hx 0).mp g)
theorem lsS_inv {row wd M : Nat} (hrow : row + wd ≤ 250) (w : Nat → Int64) (mr : Nat) (hmr : mr < 256) (h1 : ∃ x, x < 1024 ∧ pBit w mr x = true ∧ vbits w row x wd = M) (h2 : ∀ x, x < 1024 → pBit w mr x = true → M ≤ vbits w row x wd) : ∀ i, i ≤ wd →
    (∀ r, r ≠ 256 → ∀ x, x < 1024 → pBit (lsS row wd i (oCopy 256 mr 1 w, 0)).1 r x = pBit w r x) ∧ (∀ x, x < 1024 → (pBit (lsS row wd i (oCopy 256 mr 1 w, 0)).1 256 x = true ↔ pBit w mr x = true ∧ vbits w row x wd / 2 ^ (wd - i) = M / 2 ^ (wd - i))) ∧ (lsS row wd i (oCopy 256 mr 1 w, 0)).2 = M / 2 ^ (wd - i) * 2 ^ (wd - i) := by
  obtain ⟨xm, hxm, gxm, exm⟩ := h1
  have hMl : M < 2 ^ wd := by rw [← exm]; exact vbits_lt w row xm wd
  intro i
  induction i with
  | zero =>
    intro _
    refine ⟨fun r hr x hx => ?_, fun x hx => ?_, ?_⟩
    · show pBit (oCopy 256 mr 1 w) r x = _
      rw [pb_copy1 _ _ _ hx, if_neg hr]
    · show pBit (oCopy 256 mr 1 w) 256 x = true ↔ _
      rw [pb_copy1 _ _ _ hx, if_pos rfl, Nat.sub_zero, Nat.div_eq_of_lt (vbits_lt w row x wd), Nat.div_eq_of_lt hMl]
      exact ⟨fun g => ⟨g, rfl⟩, fun g => g.1⟩
    · show (0 : Nat) = _
      rw [Nat.sub_zero, Nat.div_eq_of_lt hMl, Nat.zero_mul]
  | succ i ih =>
    intro hi
    obtain ⟨i1, i2, i3⟩ := ih (by omega)
    obtain ⟨k, hk⟩ : ∃ k, k = wd - 1 - i := ⟨_, rfl⟩
    have ek1 : wd - i = k + 1 := by omega
    have ek2 : wd - (i + 1) = k := by omega
    rw [ek1] at i2 i3
    rw [ek2]
    have hbit : ∀ x, x < 1024 → (pBit (lsS row wd i (oCopy 256 mr 1 w, 0)).1 (row + k) x = true ↔ vbits w row x wd / 2 ^ k % 2 = 1) := fun x hx => by
      rw [i1 (row + k) (by omega) x hx]
      exact (vbits_bit w row x wd k (by omega)).symm
    have hdiv : ∀ V : Nat, V / 2 ^ (k + 1) = V / 2 ^ k / 2 := fun V => by rw [Nat.pow_succ, Nat.div_div_eq_div_mul]
    have hunf : lsS row wd (i + 1) (oCopy 256 mr 1 w, 0) = if pWithin (lsS row wd i (oCopy 256 mr 1 w, 0)).1 256 (row + k) = true then ((lsS row wd i (oCopy 256 mr 1 w, 0)).1, (lsS row wd i (oCopy 256 mr 1 w, 0)).2 ||| 2 ^ k) else (oRemove 256 (row + k) (lsS row wd i (oCopy 256 mr 1 w, 0)).1, (lsS row wd i (oCopy 256 mr 1 w, 0)).2) := by rw [hk]; rfl
    rw [hunf]
    by_cases hw : pWithin (lsS row wd i (oCopy 256 mr 1 w, 0)).1 256 (row + k) = true
    · rw [if_pos hw]
      have hall := (pWithin_iff _ _ _).mp hw
      have hM1 : M / 2 ^ k % 2 = 1 := by
        have := (hbit xm hxm).mp (hall xm hxm ((i2 xm hxm).mpr ⟨gxm, by rw [exm]⟩))
        rw [exm] at this
        exact this
      refine ⟨i1, fun x hx => ?_, ?_⟩
      · rw [i2 x hx]
        constructor
        · intro ⟨g1, g2⟩
          refine ⟨g1, ?_⟩
          have hb := (hbit x hx).mp (hall x hx ((i2 x hx).mpr ⟨g1, g2⟩))
          rw [hdiv, hdiv] at g2
          omega
        · intro ⟨g1, g2⟩
          exact ⟨g1, by rw [hdiv, hdiv, g2]⟩
      · show (lsS row wd i (oCopy 256 mr 1 w, 0)).2 ||| 2 ^ k = _
        have hor := Nat.two_pow_add_eq_or_of_lt (show 2 ^ k < 2 ^ (k + 1) from Nat.pow_lt_pow_right (by decide) (by omega)) (M / 2 ^ (k + 1))
        rw [i3, Nat.mul_comm, ← hor]
        have e2 : 2 ^ (k + 1) = 2 * 2 ^ k := by rw [Nat.pow_succ]; omega
        rw [hdiv, e2]
        have e3 : M / 2 ^ k = 2 * (M / 2 ^ k / 2) + 1 := by omega
        generalize M / 2 ^ k / 2 = A at e3 ⊢
        rw [e3, Nat.add_mul, Nat.one_mul, Nat.mul_comm (2 * 2 ^ k) A, Nat.mul_comm 2 A, Nat.mul_assoc]
    · rw [if_neg hw]
      have hM0 : M / 2 ^ k % 2 = 0 := by
        apply Classical.byContradiction
        intro hc
        refine hw ((pWithin_iff _ _ _).mpr (fun x hx g => ?_))
        obtain ⟨g1, g2⟩ := (i2 x hx).mp g
        apply Classical.byContradiction
        intro hnb
        have hb0 : ¬ vbits w row x wd / 2 ^ k % 2 = 1 := fun q => hnb ((hbit x hx).mpr q)
        have hle := h2 x hx g1
        have hle2 := Nat.div_le_div_right (c := 2 ^ k) hle
        rw [hdiv, hdiv] at g2
        omega
      refine ⟨fun r hr x hx => ?_, fun x hx => ?_, ?_⟩
      · show pBit (oRemove 256 (row + k) _) r x = _
        rw [pb_remove _ _ _ hx, if_neg hr]
        exact i1 r hr x hx
      · show pBit (oRemove 256 (row + k) _) 256 x = true ↔ _
        rw [pb_remove _ _ _ hx, if_pos rfl, Bool.and_eq_true, i2 x hx]
        have hb := hbit x hx
        constructor
        · intro ⟨⟨g1, g2⟩, g3⟩
          refine ⟨g1, ?_⟩
          have hb0 : ¬ vbits w row x wd / 2 ^ k % 2 = 1 := fun q => by rw [hb.mpr q] at g3; cases g3
          rw [hdiv, hdiv] at g2
          omega
        · intro ⟨g1, g2⟩
          refine ⟨⟨g1, by rw [hdiv, hdiv, g2]⟩, ?_⟩
          cases hz : pBit (lsS row wd i (oCopy 256 mr 1 w, 0)).1 (row + k) x with
          | false => rfl
          | true =>
            have := hb.mp hz
            rw [g2] at this
            omega
      · show (lsS row wd i (oCopy 256 mr 1 w, 0)).2 = _
        rw [i3]
        have e2 : 2 ^ (k + 1) = 2 * 2 ^ k := by rw [Nat.pow_succ]; omega
        rw [hdiv, e2]
        have e3 : M / 2 ^ k = 2 * (M / 2 ^ k / 2) := by omega
        generalize M / 2 ^ k / 2 = A at e3 ⊢
        rw [e3, Nat.mul_comm 2 A, Nat.mul_assoc]
theorem least_eq (h : Rel nv nb nt nf na lv nm vw vp tw ab am w tk ta tb tc fk fa fb od sd aa vl) (q : Qs) {t : Nat} (ht : t < nt) (hm : (!pNone w (250 + lv) (250 + lv)) = true) :
    let r := itS (fun m q => nxF (mEv nv nt nf vw tk ta tb tc tw fk fa fb od) (mOk sd am na nm 0) (2 ^ nb - m) m q) (fun _ q b => if q.1 t < b then q.1 t else b) (nxF (mEv nv nt nf vw tk ta tb tc tw fk fa fb od) (mOk sd am na nm 0) (2 ^ nb - 0) 0 q) 16 1025
    r.2 < 16 ∧ (lsS (50 + t * 4) (tw t) (tw t) (oCopy 256 (250 + lv) 1 w, 0)).2 = r.2 ∧ ∀ r, r < 256 → ∀ x, x < 1024 → pBit (lsS (50 + t * 4) (tw t) (tw t) (oCopy 256 (250 + lv) 1 w, 0)).1 r x = pBit w r x := by
  intro r
  have hP : (∀ x, x < 1024 → Gd am lv nm w 0 x → r.2 ≤ VX tw w x t) ∧ (r.2 = 16 ∨ ∃ x, x < 1024 ∧ Gd am lv nm w 0 x ∧ VX tw w x t = r.2) := least_P h q ht
  obtain ⟨x0, hx0, g0⟩ := (hasM_iff (am := am) (nm := nm)).mp hm
  have b6 : lv ≤ 5 := h.1.2.2.2.2.2.1
  have b3 : nt ≤ 50 := h.1.2.2.1
  have ot := h.1.2.2.2.2.2.2.2.2.1 t ht
  have v16 : VX tw w x0 t < 16 := vb_16 w (50 + t * 4) x0 ot.2
  have hl := hP.1 x0 hx0 g0
  have hne : ¬ r.2 = 16 := by omega
  obtain ⟨x1, hx1, g1, e1⟩ := hP.2.resolve_left hne
  have inv := lsS_inv (row := 50 + t * 4) (wd := tw t) (M := r.2) (by omega) w (250 + lv) (by omega) ⟨x1, hx1, Gd_0.mp g1, e1⟩ (fun x hx g => hP.1 x hx (Gd_0.mpr g)) (tw t) (Nat.le_refl _)
  refine ⟨by omega, ?_, fun z hz x hx => inv.1 z (by omega) x hx⟩
  rw [inv.2.2, Nat.sub_self, Nat.pow_zero, Nat.div_one, Nat.mul_one]
theorem least_none (h : Rel nv nb nt nf na lv nm vw vp tw ab am w tk ta tb tc fk fa fb od sd aa vl) (q : Qs) {t : Nat} (ht : t < nt) (hm : (!pNone w (250 + lv) (250 + lv)) = false) :
    (itS (fun m q => nxF (mEv nv nt nf vw tk ta tb tc tw fk fa fb od) (mOk sd am na nm 0) (2 ^ nb - m) m q) (fun _ q b => if q.1 t < b then q.1 t else b) (nxF (mEv nv nt nf vw tk ta tb tc tw fk fa fb od) (mOk sd am na nm 0) (2 ^ nb - 0) 0 q) 16 1025).2 = 16 := by
  have hP := (least_P h q ht).2
  have hn := (model_none h q hm).2
  rcases hP with c | ⟨x, c1, c2, c3⟩
  · exact c
  · exact absurd c2 (hn x c1)
end RQ
