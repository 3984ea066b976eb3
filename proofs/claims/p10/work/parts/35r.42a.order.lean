/-! the join of both: a sequence of letters, where each stands in a table -/
/-- where a letter stands in a list, its length: nowhere -/
def ix (x : Nat) : List Nat → Nat
  | [] => 0
  | a :: l => if a = x then 0 else ix x l + 1
theorem ix_get {x : Nat} : ∀ {l : List Nat}, ix x l < l.length → l.getD (ix x l) 0 = x
  | [], h => absurd h (Nat.not_lt_zero _)
  | a :: l, h => by
    unfold ix at h ⊢
    by_cases c : a = x
    · rw [if_pos c]; exact c
    · rw [if_neg c] at h ⊢
      exact ix_get (Nat.lt_of_succ_lt_succ h)
theorem ix_ne {x : Nat} : ∀ {l : List Nat} {c : Nat}, c < ix x l → c < l.length → l.getD c 0 ≠ x
  | [], c, _, h => absurd h (Nat.not_lt_zero _)
  | a :: l, c, h, hl => by
    unfold ix at h
    by_cases d : a = x
    · rw [if_pos d] at h; exact absurd h (Nat.not_lt_zero _)
    · rw [if_neg d] at h
      cases c with
      | zero => exact d
      | succ c => exact ix_ne (l := l) (by omega) (Nat.lt_of_succ_lt_succ hl)
theorem ix_le {x : Nat} : ∀ {l : List Nat}, ix x l ≤ l.length
  | [] => Nat.le_refl _
  | a :: l => by
    unfold ix
    by_cases c : a = x
    · rw [if_pos c]; exact Nat.zero_le _
    · rw [if_neg c]; exact Nat.succ_le_succ ix_le
theorem ix_inj {x y : Nat} {l : List Nat} (hx : ix x l < l.length) (h : ix x l = ix y l) : x = y := by
  rw [← ix_get hx, h]
  exact ix_get (by rw [← h]; exact hx)
/-- a table that is used has the letter of that depth -/
def inB (A : aT) (ls : List Nat) (t d : Nat) : Bool := A.2.1.testBit t && decide (ix (ls.getD d 0) (aL A t) < (aL A t).length)
def cI (A : aT) (ls : List Nat) (t d : Nat) : Nat := ix (ls.getD d 0) (aL A t)
theorem inB_and {A : aT} {ls : List Nat} {t d : Nat} : inB A ls t d = true ↔ A.2.1.testBit t = true ∧ cI A ls t d < (aL A t).length := by
  unfold inB cI
  rw [Bool.and_eq_true, decide_eq_true_iff]
/-- the number of a row at a depth -/
def vA (A : aT) (ls : List Nat) (t i d : Nat) : Nat := dgt (cI A ls t d) ((aK A t).getD i 0)
/-- a row has the numbers found ahead of a depth -/
def fA (A : aT) (ls : List Nat) (t i d : Nat) (f : Nat → Nat) : Prop := ∀ e, e < d → inB A ls t e = true → vA A ls t i e = f e
/-- how many letters ahead of a depth a table has -/
def pA (A : aT) (ls : List Nat) (t : Nat) : Nat → Nat
  | 0 => 0
  | d + 1 => if inB A ls t d = true then pA A ls t d + 1 else pA A ls t d
theorem pA_le {A : aT} {ls : List Nat} {t : Nat} : ∀ {d : Nat}, pA A ls t d ≤ d
  | 0 => Nat.le_refl _
  | d + 1 => by
    unfold pA
    have := pA_le (A := A) (ls := ls) (t := t) (d := d)
    split <;> omega
theorem pA_mono {A : aT} {ls : List Nat} {t : Nat} : ∀ {d e : Nat}, e ≤ d → pA A ls t e ≤ pA A ls t d
  | 0, e, h => by rw [Nat.le_zero.mp h]; exact Nat.le_refl _
  | d + 1, e, h => by
    rcases (by omega : e = d + 1 ∨ e ≤ d) with z | z
    · rw [z]; exact Nat.le_refl _
    · have := pA_mono (A := A) (ls := ls) (t := t) z
      conv => rhs; unfold pA
      split <;> omega
theorem pA_lt {A : aT} {ls : List Nat} {t d e : Nat} (h : e < d) (hi : inB A ls t e = true) : pA A ls t e < pA A ls t d := by
  have q := pA_mono (A := A) (ls := ls) (t := t) (show e + 1 ≤ d from h)
  have z : pA A ls t (e + 1) = pA A ls t e + 1 := by
    conv => lhs; unfold pA
    rw [if_pos hi]
  omega
theorem pA_ex {A : aT} {ls : List Nat} {t : Nat} : ∀ {d j : Nat}, j < pA A ls t d → ∃ e, e < d ∧ inB A ls t e = true ∧ pA A ls t e = j
  | 0, j, h => absurd h (Nat.not_lt_zero _)
  | d + 1, j, h => by
    unfold pA at h
    by_cases c : inB A ls t d = true
    · rw [if_pos c] at h
      rcases (by omega : j < pA A ls t d ∨ j = pA A ls t d) with z | z
      · obtain ⟨e, a, b, c⟩ := pA_ex z
        exact ⟨e, by omega, b, c⟩
      · exact ⟨d, by omega, c, z.symm⟩
    · rw [if_neg c] at h
      obtain ⟨e, a, b, c⟩ := pA_ex h
      exact ⟨e, by omega, b, c⟩
/-- a sequence of unlike letters -/
def okS (ls : List Nat) : Prop := ls.length ≤ 4 ∧ (∀ e, e < ls.length → ls.getD e 0 < 4) ∧ ∀ d e, d < ls.length → e < ls.length → d ≠ e → ls.getD d 0 ≠ ls.getD e 0
theorem cI_ne {A : aT} {ls : List Nat} {t d e : Nat} (hs : okS ls) (hd : d < ls.length) (he : e < ls.length) (hne : d ≠ e) (h : inB A ls t d = true) : cI A ls t d ≠ cI A ls t e := fun z => hs.2.2 d e hd he hne (ix_inj (inB_and.mp h).2 z)
theorem pA_2 {A : aT} {ls : List Nat} {t d : Nat} (hs : okS ls) (h3 : (aL A t).length ≤ 3) (hd : d < ls.length) (h : inB A ls t d = true) : pA A ls t d ≤ 2 := by
  have h4 := hs.1
  have := pA_le (A := A) (ls := ls) (t := t) (d := d)
  rcases (by omega : pA A ls t d ≤ 2 ∨ pA A ls t d = 3) with z | z
  · exact z
  · exfalso
    have d3 : d = 3 := by omega
    obtain ⟨e0, a0, i0, p0⟩ := pA_ex (A := A) (ls := ls) (t := t) (d := d) (j := 0) (by omega)
    obtain ⟨e1, a1, i1, p1⟩ := pA_ex (A := A) (ls := ls) (t := t) (d := d) (j := 1) (by omega)
    obtain ⟨e2, a2, i2, p2⟩ := pA_ex (A := A) (ls := ls) (t := t) (d := d) (j := 2) (by omega)
    have n01 : e0 ≠ e1 := fun q => by rw [q] at p0; omega
    have n02 : e0 ≠ e2 := fun q => by rw [q] at p0; omega
    have n12 : e1 ≠ e2 := fun q => by rw [q] at p1; omega
    have x0 := (inB_and.mp i0).2
    have x1 := (inB_and.mp i1).2
    have x2 := (inB_and.mp i2).2
    have x3 := (inB_and.mp h).2
    have c01 := cI_ne hs (by omega) (by omega) n01 i0
    have c02 := cI_ne hs (by omega) (by omega) n02 i0
    have c12 := cI_ne hs (by omega) (by omega) n12 i1
    have c03 := cI_ne (e := d) hs (by omega) hd (by omega) i0
    have c13 := cI_ne (e := d) hs (by omega) hd (by omega) i1
    have c23 := cI_ne (e := d) hs (by omega) hd (by omega) i2
    omega
theorem inB_t {A : aT} {ls : List Nat} {t d : Nat} (hW : WF A) (h : inB A ls t d = true) : t < A.1.length := by
  have q := (inB_and.mp h).1
  rcases Nat.lt_or_ge t A.1.length with c | c
  · exact c
  · exfalso
    have := Nat.testBit_lt_two_pow (Nat.lt_of_lt_of_le hW.2.1 (Nat.pow_le_pow_right (n := 2) (by decide) c))
    rw [this] at q
    exact absurd q (by decide)
theorem used_t {A : aT} {t : Nat} (hW : WF A) (q : A.2.1.testBit t = true) : t < A.1.length := by
  rcases Nat.lt_or_ge t A.1.length with c | c
  · exact c
  · exfalso
    have := Nat.testBit_lt_two_pow (Nat.lt_of_lt_of_le hW.2.1 (Nat.pow_le_pow_right (n := 2) (by decide) c))
    rw [this] at q
    exact absurd q (by decide)
theorem vA_99 {A : aT} {ls : List Nat} {t i d : Nat} (hW : WF A) (h : inB A ls t d = true) (hi : i < (aK A t).length) : vA A ls t i d ≤ 99 := by
  have w := hW.2.2.2.2 t (inB_t hW h)
  have k := w.2.2.2.2.2 i hi
  have c := (inB_and.mp h).2
  have w1 := w.1
  unfold vA
  rcases (by omega : cI A ls t d = 0 ∨ cI A ls t d = 1 ∨ cI A ls t d = 2) with z | z | z
  · rw [z]; exact k.1
  · rw [z]; exact k.2.1 (by omega)
  · rw [z]; exact k.2.2.2.1 (by omega)
/-! the class's search: what stands still -/
/-- the letters in their order, where their numbers are, the rows sorted by them -/
def SX (M : gM) (k : Nat) (A : aT) (ls : List Nat) (qs : Nat → List Nat) : Prop := M k 2 = nI ls.length ∧ (∀ e, e < ls.length → M (k + 2) e = nI (ls.getD e 0)) ∧ (∀ t, t < 4 → ∀ d, d < ls.length → M (k + 7) (4 * d + t) = if inB A ls t d = true then nI (14 - 7 * pA A ls t d) else -1) ∧ ∀ t, t < 4 → A.2.1.testBit t = true → ∀ j, j < (qs t).length → M (k + 5) (12 * t + j) = nI ((qs t).getD j 0)
theorem SX.cong {M r : gM} {k : Nat} {A : aT} {ls : List Nat} {qs : Nat → List Nat} (h : SX M k A ls qs) (h0 : r k 2 = M k 2) (h2 : r (k + 2) = M (k + 2)) (h7 : r (k + 7) = M (k + 7)) (h5 : r (k + 5) = M (k + 5)) : SX r k A ls qs :=
  ⟨h0.trans h.1, fun e he => by rw [h2]; exact h.2.1 e he, fun t ht d hd => by rw [h7]; exact h.2.2.1 t ht d hd, fun t ht u j hj => by rw [h5]; exact h.2.2.2 t ht u j hj⟩
/-- the sorted rows are those of the tables -/
def QS (A : aT) (ls : List Nat) (qs : Nat → List Nat) : Prop := ∀ t, t < 4 → A.2.1.testBit t = true → (qs t).length ≤ 12 ∧ (∀ i j, i < j → j < (qs t).length → (qs t).getD i 0 ≤ (qs t).getD j 0) ∧ (∀ j, j < (qs t).length → (qs t).getD j 0 < 2097152) ∧ (∀ j, j < (qs t).length → ∃ i, i < (aK A t).length ∧ ∀ d, d < ls.length → inB A ls t d = true → dgt (pA A ls t d) ((qs t).getD j 0) = vA A ls t i d) ∧ ∀ i, i < (aK A t).length → ∃ j, j < (qs t).length ∧ ∀ d, d < ls.length → inB A ls t d = true → dgt (pA A ls t d) ((qs t).getD j 0) = vA A ls t i d
/-- the number at a place, for a depth -/
def uq (A : aT) (ls : List Nat) (qs : Nat → List Nat) (t d j : Nat) : Nat := dgt (pA A ls t d) ((qs t).getD j 0)
theorem uq_99 {A : aT} {ls : List Nat} {qs : Nat → List Nat} {t d j : Nat} (hW : WF A) (hQ : QS A ls qs) (hd : d < ls.length) (h : inB A ls t d = true) (hj : j < (qs t).length) : uq A ls qs t d j ≤ 99 := by
  have ht := inB_t hW h
  obtain ⟨i, hi, e⟩ := (hQ t (by have := hW.1; omega) (inB_and.mp h).1).2.2.2.1 j hj
  unfold uq
  rw [e d hd h]
  exact vA_99 hW h hi
/-- the rows that have the numbers found ahead of a depth -/
def RG (M : gM) (k : Nat) (A : aT) (ls : List Nat) (qs : Nat → List Nat) (d : Nat) (f a b : Nat → Nat) : Prop := ∀ t, t < 4 → A.2.1.testBit t = true → M (k + 8) (4 * d + t) = nI (12 * t + a t) ∧ M (k + 9) (4 * d + t) = nI (12 * t + b t) ∧ a t ≤ b t ∧ b t ≤ (qs t).length ∧ ∀ j, j < (qs t).length → ((a t ≤ j ∧ j < b t) ↔ ∀ e, e < d → inB A ls t e = true → uq A ls qs t e j = f e)
theorem dgt_le {x y j : Nat} (hx : x < 2097152) (hy : y < 2097152) (h : x ≤ y) (hj : j ≤ 2) (hd : ∀ i, i < j → dgt i x = dgt i y) : dgt j x ≤ dgt j y := by
  rcases (by omega : j = 0 ∨ j = 1 ∨ j = 2) with rfl | rfl | rfl
  · rw [dgt_0, dgt_0]; omega
  · have h0 := hd 0 (by omega)
    rw [dgt_0, dgt_0] at h0
    rw [dgt_1, dgt_1]; omega
  · have h0 := hd 0 (by omega)
    have h1 := hd 1 (by omega)
    rw [dgt_0, dgt_0] at h0
    rw [dgt_1, dgt_1] at h1
    rw [dgt_2, dgt_2]; omega
theorem RG.mono {M : gM} {k : Nat} {A : aT} {ls : List Nat} {qs : Nat → List Nat} {d : Nat} {f a b : Nat → Nat} (hW : WF A) (hs : okS ls) (hQ : QS A ls qs) (hR : RG M k A ls qs d f a b) (hd : d < ls.length) {t i j : Nat} (h : inB A ls t d = true) (hi : a t ≤ i) (hij : i ≤ j) (hj : j < b t) : uq A ls qs t d i ≤ uq A ls qs t d j := by
  have ht := inB_t hW h
  have h4 := hW.1
  have u := (inB_and.mp h).1
  obtain ⟨_, _, _, r4, r5⟩ := hR t (by omega) u
  obtain ⟨q1, q2, q3, _, _⟩ := hQ t (by omega) u
  rcases (by omega : i = j ∨ i < j) with z | z
  · rw [z]; exact Nat.le_refl _
  · refine dgt_le (q3 i (by omega)) (q3 j (by omega)) (q2 i j z (by omega)) (pA_2 hs (hW.2.2.2.2 t ht).1.2 hd h) (fun c hc => ?_)
    obtain ⟨e, a1, a2, a3⟩ := pA_ex hc
    have e1 := (r5 i (by omega)).mp ⟨hi, by omega⟩ e a1 a2
    have e2 := (r5 j (by omega)).mp ⟨by omega, hj⟩ e a1 a2
    unfold uq at e1 e2
    rw [← a3, e1, e2]
/-- which numbers there are for a depth -/
theorem RG.set {M : gM} {k : Nat} {A : aT} {ls : List Nat} {qs : Nat → List Nat} {d : Nat} {f a b : Nat → Nat} (hW : WF A) (hQ : QS A ls qs) (hR : RG M k A ls qs d f a b) (hd : d < ls.length) {t : Nat} (h : inB A ls t d = true) (v : Nat) : (∃ j, a t ≤ j ∧ j < b t ∧ uq A ls qs t d j = v) ↔ ∃ i, i < (aK A t).length ∧ fA A ls t i d f ∧ vA A ls t i d = v := by
  have ht := inB_t hW h
  have h4 := hW.1
  have u := (inB_and.mp h).1
  obtain ⟨_, _, _, r4, r5⟩ := hR t (by omega) u
  obtain ⟨_, _, _, q4, q5⟩ := hQ t (by omega) u
  constructor
  · rintro ⟨j, h1, h2, h3⟩
    obtain ⟨i, hi, e⟩ := q4 j (by omega)
    refine ⟨i, hi, fun e' he' hi' => ?_, ?_⟩
    · rw [← e e' (by omega) hi']
      exact (r5 j (by omega)).mp ⟨h1, h2⟩ e' he' hi'
    · rw [← e d hd h]; exact h3
  · rintro ⟨i, hi, h1, h2⟩
    obtain ⟨j, hj, e⟩ := q5 i hi
    have := (r5 j hj).mpr (fun e' he' hi' => by
      show dgt _ _ = _
      rw [e e' (by omega) hi']; exact h1 e' he' hi')
    refine ⟨j, this.1, this.2, ?_⟩
    show dgt _ _ = _
    rw [e d hd h]; exact h2
/-- the least of some numbers that is no less than one -/
def LG3 (S : Nat → Prop) (g u : Nat) : Prop := S u ∧ g ≤ u ∧ ∀ w, S w → g ≤ w → u ≤ w
theorem LG3.eq {S : Nat → Prop} {g u u' : Nat} (h : LG3 S g u) (h' : LG3 S g u') : u = u' := by
  have := h.2.2 u' h'.1 h'.2.1
  have := h'.2.2 u h.1 h.2.1
  omega
