/-! letters, orders -/
theorem hs_bit : ∀ m, m < 16 → ∀ l, l < 4 → (((nI m >>> (nI l &&& 31)) &&& 1 = 1) ↔ m.testBit l = true) := by decide +kernel
theorem hs_nI {m l : Nat} (hm : m < 16) (hl : l < 4) : hs (nI m) l ↔ m.testBit l = true := hs_bit m hm l hl
theorem or1_bit : ∀ m, m < 16 → ∀ l, l < 4 → nI m ||| ((1 : Int32) <<< (nI l &&& 31)) = nI (m ||| 2 ^ l) ∧ m ||| 2 ^ l < 16 := by decide +kernel
theorem orn_bit : ∀ a, a < 16 → ∀ b, b < 16 → nI a ||| nI b = nI (a ||| b) ∧ a ||| b < 16 := by decide +kernel
theorem andn_bit : ∀ m, m < 16 → ∀ l, l < 4 → m.testBit l = true → nI m &&& (((1 : Int32) <<< (nI l &&& 31)) ^^^ (-1)) = nI (m - 2 ^ l) := by decide +kernel
theorem pow_bit : ∀ l, l < 4 → ∀ k, k < 4 → ((2 ^ l).testBit k = true ↔ k = l) := by decide +kernel
theorem or_bit (a b l : Nat) : ((a ||| b).testBit l = true) ↔ (a.testBit l = true ∨ b.testBit l = true) := by
  rw [Nat.testBit_or, Bool.or_eq_true]
/-- the n-th letter of a set, from a letter on -/
def sel : Nat → Nat → Nat → Nat → Nat
  | 0, l, _, _ => l
  | f + 1, l, m, s => if m.testBit l = true then (if s = 0 then l else sel f (l + 1) m (s - 1)) else sel f (l + 1) m s
def byK (k : Nat) : Nat := if k = 0 then 6 else if k = 1 then 2 else 1
def lef (o : Nat) : Nat → Nat × Nat
  | 0 => (15, o)
  | k + 1 => ((lef o k).1 - 2 ^ sel 4 0 (lef o k).1 ((lef o k).2 / byK k), (lef o k).2 % byK k)
/-- the k-th letter of an order -/
def ltr (o k : Nat) : Nat := sel 4 0 (lef o k).1 ((lef o k).2 / byK k)
theorem ltr_ok : ∀ o, o < 24 → ∀ k, k < 4 → ltr o k < 4 ∧ (lef o k).1 < 16 ∧ (lef o k).1.testBit (ltr o k) = true ∧ (lef o k).2 < 24 ∧ (lef o k).2 / byK k < 4 := by decide +kernel
/-- the letters of an order that a set has, of its first k -/
def flt (o am : Nat) : Nat → List Nat
  | 0 => []
  | k + 1 => if am.testBit (ltr o k) = true then flt o am k ++ [ltr o k] else flt o am k
def fl4 (o am : Nat) : List Nat := flt o am 4
theorem fl4_mem : ∀ o, o < 24 → ∀ am, am < 16 → ∀ i, i < 4 → (i < (fl4 o am).length → (fl4 o am).getD i 0 < 4 ∧ am.testBit ((fl4 o am).getD i 0) = true) := by decide +kernel
theorem fl4_ne0 : ∀ o, o < 24 → ∀ am, am < 16 → ∀ p, p < 16 → (p % 4 < (fl4 o am).length ∧ p / 4 < p % 4 → ¬ (fl4 o am).getD (p / 4) 0 = (fl4 o am).getD (p % 4) 0) := by decide +kernel
theorem fl4_ne {o am i j : Nat} (ho : o < 24) (ha : am < 16) (hj : j < 4) (h : j < (fl4 o am).length) (hi : i < j) : (fl4 o am).getD i 0 ≠ (fl4 o am).getD j 0 := by
  have := fl4_ne0 o ho am ha (4 * i + j) (by omega)
  rw [show (4 * i + j) % 4 = j by omega, show (4 * i + j) / 4 = i by omega] at this
  exact this ⟨h, hi⟩
theorem flt_len (o am : Nat) : ∀ k, (flt o am k).length ≤ k := by
  intro k
  induction k with
  | zero => exact Nat.le_refl _
  | succ k ih =>
    unfold flt
    split
    · rw [List.length_append]; exact Nat.succ_le_succ ih
    · exact Nat.le_succ_of_le ih
theorem n_dV {a b : Nat} (ha : a < 2 ^ 31) (hb : b < 2 ^ 31) (h : 0 < b) : dV (nI a) (nI b) = some (nI (a / b)) := by
  unfold dV
  rw [if_neg (fun e => by have := nI_inj (b := 0) e hb (by omega); omega)]
  exact congrArg some (Int32.ofNat_div ha hb).symm
theorem n_rM {a b : Nat} (ha : a < 2 ^ 31) (hb : b < 2 ^ 31) (h : 0 < b) : rM (nI a) (nI b) = some (nI (a % b)) := by
  unfold rM
  rw [if_neg (fun e => by have := nI_inj (b := 0) e hb (by omega); omega), show nI a / nI b = nI (a / b) from (Int32.ofNat_div ha hb).symm, nI_mul, nI_sub (Nat.div_mul_le_self a b)]
  have := Nat.div_add_mod a b
  rw [Nat.mul_comm] at this
  rw [show a - a / b * b = a % b by omega]
/-- the letters of a table -/
def Lt (w : Nat) (lt : Nat → Int32) (m : Nat) : Prop := m < 16 ∧ ∀ l, l < 4 → (m.testBit l = true ↔ ∃ c, c < w ∧ lt c = nI l)
theorem n_lettersOf {I0 I : gM} (hM : MI false I0 I) {t w : Nat} (ht : t < 4) (hw : w ≤ 3) (e : I 72 t = nI w) : ∃ m, fX9_lettersOf (nI t) I = some (nI m) ∧ Lt w (fun c => I 73 (3 * t + c)) m := by
  have key : T (lX9_lettersOf_4 (nI t) I (nI 0, nI 0)) (fun r => ∃ m, r = nI m ∧ Lt w (fun c => I 73 (3 * t + c)) m) := by
    unfold lX9_lettersOf_4
    refine t_it (P := fun s => ∃ m i, s = (nI m, nI i) ∧ i ≤ w ∧ Lt i (fun c => I 73 (3 * t + c)) m) (μ := fun s => 20 - s.2.toInt.toNat) (fun s p => ?_) ⟨0, 0, rfl, by omega, by omega, fun l _ => ⟨fun h => by rw [Nat.zero_testBit] at h; exact absurd h (by decide), fun ⟨c, a, _⟩ => by omega⟩⟩
    obtain ⟨m, i, rfl, h1, h2⟩ := p
    dsimp only
    refine t_be (rI_n (by omega) (by omega)) ?_
    rw [e]
    refine t_ite (fun c => ?_) (fun c => ?_)
    · have c := (nI_leI (by omega) (by omega)).mp c
      obtain rfl : i = w := by omega
      exact t_ret (show ∃ m', nI m = nI m' ∧ Lt i (fun c => I 73 (3 * t + c)) m' from ⟨m, rfl, h2⟩)
    · have c := mt (nI_leI (a := w) (b := i) (by omega) (by omega)).mpr c
      rw [a3]
      refine t_be (rI_n (by omega) (by omega)) ?_
      obtain ⟨l, l3, el⟩ := hM.n (k := 73) (j := 3 * t + i) (hi := 3) rfl
      obtain ⟨o1, o2⟩ := or1_bit m h2.1 l (by omega)
      rw [el, o1, nI_1]
      refine t_nx ⟨m ||| 2 ^ l, i + 1, rfl, by omega, o2, fun l' hl => ?_⟩ (by show 20 - (nI (i + 1)).toInt.toNat < 20 - (nI i).toInt.toNat; rw [nIt (by omega), nIt (by omega)]; omega)
      rw [or_bit, h2.2 l' hl, pow_bit l (by omega) l' hl]
      constructor
      · rintro (⟨c', a, b⟩ | z)
        · exact ⟨c', by omega, b⟩
        · exact ⟨i, by omega, by rw [z]; exact el⟩
      · rintro ⟨c', a, b⟩
        rcases (by omega : c' < i ∨ c' = i) with z | z
        · exact Or.inl ⟨c', z, b⟩
        · subst z; exact Or.inr (nI_inj (b.symm.trans el) (by omega) (by omega))
  obtain ⟨r, e1, m, rfl, h⟩ := key
  refine ⟨m, ?_, h⟩
  unfold fX9_lettersOf
  rw [L0, e1, obs]
/-- a letter is asked -/
def ask9 (I : gM) (n l : Nat) : Prop := ∃ t, t < n ∧ hs (I 70 0) t ∧ ∃ c, c < (I 72 t).toInt.toNat ∧ I 73 (3 * t + c) = nI l
theorem n_asked {I0 I : gM} (hM : MI false I0 I) {n : Nat} (hn : n ≤ 4) (e : I 62 17 = nI n) : ∃ am, am < 16 ∧ fX9_asked I = some (nI am) ∧ ∀ l, l < 4 → (am.testBit l = true ↔ ask9 I n l) := by
  have key : T (lX9_asked_4 I (nI 0, nI 0)) (fun r => ∃ am, r = nI am ∧ am < 16 ∧ ∀ l, l < 4 → (am.testBit l = true ↔ ask9 I n l)) := by
    unfold lX9_asked_4
    refine t_it (P := fun s => ∃ am t, s = (nI am, nI t) ∧ t ≤ n ∧ am < 16 ∧ ∀ l, l < 4 → (am.testBit l = true ↔ ask9 I t l)) (μ := fun s => 20 - s.2.toInt.toNat) (fun s p => ?_) ⟨0, 0, rfl, by omega, by omega, fun l _ => ⟨fun h => by rw [Nat.zero_testBit] at h; exact absurd h (by decide), fun ⟨t, a, _⟩ => by omega⟩⟩
    obtain ⟨am, t, rfl, h1, h2, h3⟩ := p
    dsimp only
    refine t_ite (fun c => ?_) (fun c => ?_)
    · rw [e] at c
      have c := (nI_leI (by omega) (by omega)).mp c
      obtain rfl : t = n := by omega
      exact t_ret (show ∃ am', nI am = nI am' ∧ am' < 16 ∧ ∀ l, l < 4 → (am'.testBit l = true ↔ ask9 I t l) from ⟨am, rfl, h2, h3⟩)
    · rw [e] at c
      have c := mt (nI_leI (a := n) (b := t) (by omega) (by omega)).mpr c
      have mu : 20 - (nI t + 1).toInt.toNat < 20 - (nI t).toInt.toNat := by rw [nI_1, nIt (by omega), nIt (by omega)]; omega
      by_cases u : hs (I 70 0) t
      · refine t_be (n_isUsed1 u) ?_
        rw [if_neg (by decide)]
        obtain ⟨w, w3, ew⟩ := hM.n (k := 72) (j := t) (hi := 3) rfl
        obtain ⟨m, em, m1, m2⟩ := n_lettersOf hM (by omega) (by omega) ew
        refine t_be em ?_
        obtain ⟨o1, o2⟩ := orn_bit am h2 m m1
        show T (some (Sum.inl (nI am ||| nI m, nI t + 1))) _
        rw [o1]
        refine t_nx ⟨am ||| m, t + 1, by rw [nI_1], by omega, o2, fun l hl => ?_⟩ mu
        rw [or_bit, h3 l hl, m2 l hl]
        constructor
        · rintro (⟨t', a, b⟩ | ⟨c', a, b⟩)
          · exact ⟨t', by omega, b⟩
          · exact ⟨t, by omega, u, c', by rw [ew, nIt (by omega)]; exact a, b⟩
        · rintro ⟨t', a, b, c', d, f⟩
          rcases (by omega : t' < t ∨ t' = t) with z | z
          · exact Or.inl ⟨t', z, b, c', d, f⟩
          · subst z
            rw [ew, nIt (by omega)] at d
            exact Or.inr ⟨c', d, f⟩
      · refine t_be (n_isUsed0 u) ?_
        rw [if_pos rfl]
        show T (some (Sum.inl (nI am ||| nI 0, nI t + 1))) _
        obtain ⟨o1, o2⟩ := orn_bit am h2 0 (by omega)
        rw [o1, Nat.or_zero]
        refine t_nx ⟨am, t + 1, by rw [nI_1], by omega, h2, fun l hl => ?_⟩ mu
        rw [h3 l hl]
        constructor
        · rintro ⟨t', a, b⟩; exact ⟨t', by omega, b⟩
        · rintro ⟨t', a, b, c'⟩
          rcases (by omega : t' < t ∨ t' = t) with z | z
          · exact ⟨t', z, b, c'⟩
          · subst z; exact absurd b u
  obtain ⟨r, e1, am, rfl, h2, h3⟩ := key
  refine ⟨am, h2, ?_, h3⟩
  unfold fX9_asked
  rw [L0, e1, obs]
theorem n_laysOrder56 {m s : Nat} (hm : m < 16) (hs' : s < 4) (h4 : sel 4 0 m s < 4) : lX9_laysOrder_56 (nI m) (nI s, nI 0) = some (nI (sel 4 0 m s)) := by
  have key : T (lX9_laysOrder_56 (nI m) (nI s, nI 0)) (fun r => r = nI (sel 4 0 m s)) := by
    unfold lX9_laysOrder_56
    refine t_it (P := fun x => ∃ s' l f, x = (nI s', nI l) ∧ l + f = 4 ∧ s' < 4 ∧ sel f l m s' = sel 4 0 m s) (μ := fun x => 20 - x.2.toInt.toNat) (fun x p => ?_) ⟨s, 0, 4, rfl, rfl, hs', rfl⟩
    obtain ⟨s', l, f, rfl, h1, h2, h3⟩ := p
    cases f with
    | zero =>
      exfalso
      have : l = sel 4 0 m s := h3
      omega
    | succ f =>
      dsimp only
      have mu : 20 - (nI l + 1).toInt.toNat < 20 - (nI l).toInt.toNat := by rw [nI_1, nIt (by omega), nIt (by omega)]; omega
      have h3' : (if m.testBit l = true then (if s' = 0 then l else sel f (l + 1) m (s' - 1)) else sel f (l + 1) m s') = sel 4 0 m s := h3
      by_cases b : m.testBit l = true
      · rw [if_pos b] at h3'
        have b1 := n_has1 ((hs_nI hm (by omega)).mpr b)
        refine t_be b1 ?_
        rw [if_neg (by decide)]
        refine t_ite (fun c => ?_) (fun c => ?_)
        · have c := (nI_leI (b := 0) (by omega) (by omega)).mp c
          rw [if_pos (by omega)] at h3'
          exact t_ret (show nI l = nI (sel 4 0 m s) by rw [h3'])
        · have c := mt (nI_leI (a := s') (b := 0) (by omega) (by omega)).mpr c
          rw [if_neg (by omega)] at h3'
          unfold bX9_laysOrder_70
          refine t_be b1 ?_
          rw [if_neg (by decide)]
          show T (some (Sum.inl (nI s' - 1, nI l + 1))) _
          rw [nI_s1 (by omega)]
          exact t_nx ⟨s' - 1, l + 1, f, by rw [nI_1], by omega, by omega, h3'⟩ mu
      · rw [if_neg b] at h3'
        have b1 := n_has0 (mt (hs_nI hm (by omega)).mp b)
        refine t_be b1 ?_
        rw [if_pos rfl]
        unfold bX9_laysOrder_70
        refine t_be b1 ?_
        rw [if_pos rfl]
        show T (some (Sum.inl (nI s' - nI 0, nI l + 1))) _
        rw [nI_sub (by omega)]
        exact t_nx ⟨s', l + 1, f, by rw [nI_1]; rfl, by omega, h2, h3'⟩ mu
  obtain ⟨r, e, h⟩ := key
  rw [e, h]
/-- the letters asked, in order -/
def Sq (I : gM) (ls : List Nat) : Prop := I 62 19 = nI ls.length ∧ ∀ d, d < ls.length → I 74 d = nI (ls.getD d 0)
theorem n_laysOrder {I0 I : gM} (hM : MI false I0 I) {n o : Nat} (hn : n ≤ 4) (e : I 62 17 = nI n) (ho : o < 24) : ∃ am r, am < 16 ∧ (∀ l, l < 4 → (am.testBit l = true ↔ ask9 I n l)) ∧ fX9_laysOrder (nI o) I = some r ∧ MI false I0 r ∧ Sq r (fl4 o am) ∧ (∀ k, k ≠ 62 → k ≠ 74 → r k = I k) ∧ ∀ j, j ≠ 19 → r 62 j = I 62 j := by
  obtain ⟨am, am1, ea, am2⟩ := n_asked hM hn e
  have key : T (lX9_laysOrder_17 (nI 15, nI o, nI 6, nI 0, g_up I 62 19 0)) (fun r => MI false I0 r ∧ Sq r (fl4 o am) ∧ (∀ k, k ≠ 62 → k ≠ 74 → r k = I k) ∧ ∀ j, j ≠ 19 → r 62 j = I 62 j) := by
    unfold lX9_laysOrder_17
    refine t_it (P := fun s => ∃ k, s.1 = nI (lef o k).1 ∧ s.2.1 = nI (lef o k).2 ∧ s.2.2.1 = nI (byK k) ∧ s.2.2.2.1 = nI k ∧ k ≤ 4 ∧ MI false I0 s.2.2.2.2 ∧ Sq s.2.2.2.2 (flt o am k) ∧ (∀ q, q ≠ 62 → q ≠ 74 → s.2.2.2.2 q = I q) ∧ ∀ j, j ≠ 19 → s.2.2.2.2 62 j = I 62 j) (μ := fun s => 20 - s.2.2.2.1.toInt.toNat) (fun s p => ?_)
      ⟨0, rfl, rfl, rfl, rfl, by omega, hM.up (k := 62) rfl (lo := 0) (hi := 4) rfl (by decide) (by decide), ⟨by show g_up I 62 19 0 62 19 = _; rw [g_up_self]; rfl, fun d hd => absurd hd (Nat.not_lt_zero _)⟩, fun q y1 y2 => g_up_row y1, fun j hj => g_up_ne (Or.inr hj)⟩
    obtain ⟨s1, s2, s3, s4, I1⟩ := s
    obtain ⟨k, e1, e2, e3, e4, h1, M1, S1, F1, F2⟩ := p
    dsimp only at e1 e2 e3 e4 M1 S1 F1 F2
    subst e1 e2 e3 e4
    dsimp only
    refine t_ite (fun c => ?_) (fun c => ?_)
    · have c := (nI_leI (a := 4) (by omega) (by omega)).mp c
      obtain rfl : k = 4 := by omega
      exact t_ret ⟨M1, S1, F1, F2⟩
    · have c := mt (nI_leI (a := 4) (b := k) (by omega) (by omega)).mpr c
      obtain ⟨y1, y2, y3, y4, y5⟩ := ltr_ok o ho k (by omega)
      have by6 : byK k ≤ 6 ∧ 0 < byK k := by unfold byK; split <;> (try split) <;> omega
      refine t_be (n_dV (by omega) (by omega) by6.2) (t_be (n_rM (by omega) (by omega) by6.2) ?_)
      have F17 : I1 62 17 = nI n := by rw [F2 17 (by omega)]; exact e
      have F0 : ∀ l, ask9 I1 n l ↔ ask9 I n l := fun l => by
        unfold ask9
        rw [F1 70 (by omega) (by omega), F1 72 (by omega) (by omega), F1 73 (by omega) (by omega)]
      obtain ⟨am', z1, z2, z3⟩ := n_asked M1 hn F17
      have ask : fX9_asked I1 = some (nI am) := by
        rw [z2]
        have : am' = am := Nat.eq_of_testBit_eq (fun l => by
          by_cases hl : l < 4
          · have a := z3 l hl
            rw [F0, ← am2 l hl] at a
            cases h1 : am'.testBit l <;> cases h2 : am.testBit l <;> simp_all
          · have p1 : (2 : Nat) ^ 4 ≤ 2 ^ l := Nat.pow_le_pow_right (by omega) (by omega)
            rw [Nat.testBit_lt_two_pow (Nat.lt_of_lt_of_le z1 p1), Nat.testBit_lt_two_pow (Nat.lt_of_lt_of_le am1 p1)])
        rw [this]
      have mu : 20 - (nI k + 1).toInt.toNat < 20 - (nI k).toInt.toNat := by rw [nI_1, nIt (by omega), nIt (by omega)]; omega
      have body : T (bX9_laysOrder_51 (nI (lef o k).1) (nI ((lef o k).2 % byK k)) (nI k) (nI ((lef o k).2 / byK k)) (nI (byK (k + 1))) I1) (LQ (fun s => ∃ k, s.1 = nI (lef o k).1 ∧ s.2.1 = nI (lef o k).2 ∧ s.2.2.1 = nI (byK k) ∧ s.2.2.2.1 = nI k ∧ k ≤ 4 ∧ MI false I0 s.2.2.2.2 ∧ Sq s.2.2.2.2 (flt o am k) ∧ (∀ q, q ≠ 62 → q ≠ 74 → s.2.2.2.2 q = I q) ∧ ∀ j, j ≠ 19 → s.2.2.2.2 62 j = I 62 j) (20 - (nI k).toInt.toNat) (fun s => 20 - s.2.2.2.1.toInt.toNat) (fun r => MI false I0 r ∧ Sq r (fl4 o am) ∧ (∀ k, k ≠ 62 → k ≠ 74 → r k = I k) ∧ ∀ j, j ≠ 19 → r 62 j = I 62 j)) := by
        unfold bX9_laysOrder_51
        refine t_be (n_laysOrder56 y2 y5 y1) (t_be ask ?_)
        show T ((fX9_has (nI am) (nI (ltr o k))).bind _) _
        rw [show sel 4 0 (lef o k).1 ((lef o k).2 / byK k) = ltr o k from rfl, andn_bit _ y2 _ y1 y3]
        have lf : (lef o (k + 1)).1 = (lef o k).1 - 2 ^ ltr o k := rfl
        have fl := flt_len o am k
        by_cases b : am.testBit (ltr o k) = true
        · have ef : flt o am (k + 1) = flt o am k ++ [ltr o k] := if_pos b
          refine t_be (n_has1 ((hs_nI am1 y1).mpr b)) ?_
          rw [if_neg (by decide), S1.1]
          refine t_be (wI_n (by omega) (by omega)) ?_
          rw [g_up_row (by omega), S1.1, nI_1]
          refine t_be pU_n ?_
          unfold bX9_laysOrder_137
          refine t_nx ?_ mu
          dsimp only
          refine ⟨k + 1, by rw [lf], rfl, rfl, nI_1 k, by omega, (M1.up (k := 74) rfl (lo := 0) (hi := 3) rfl (by rw [tnI (by omega)]; omega) (by rw [tnI (by omega)]; omega)).up (k := 62) rfl (lo := 0) (hi := 4) rfl (by rw [tnI (by omega)]; omega) (by rw [tnI (by omega)]; omega), ⟨by rw [g_up_self, ef, List.length_append]; rfl, fun d hd => ?_⟩, fun q z1 z2 => ?_, fun j hj => ?_⟩
          · rw [ef, List.length_append] at hd
            have hd : d < (flt o am k).length + 1 := hd
            rw [g_up_row (by omega), gu_in, ef]
            by_cases z : d = (flt o am k).length
            · rw [if_pos z, z, List.getD_eq_getElem?_getD, List.getElem?_append_right (Nat.le_refl _), Nat.sub_self]; rfl
            · rw [if_neg z, S1.2 d (by omega), List.getD_eq_getElem?_getD, List.getD_eq_getElem?_getD, List.getElem?_append_left (by omega)]
          · rw [g_up_row z1, g_up_row z2]; exact F1 q z1 z2
          · rw [g_up_ne (Or.inr hj), g_up_row (by omega)]; exact F2 j hj
        · have ef : flt o am (k + 1) = flt o am k := if_neg b
          refine t_be (n_has0 (mt (hs_nI am1 y1).mp b)) ?_
          rw [if_pos rfl]
          unfold bX9_laysOrder_137
          refine t_nx ?_ mu
          dsimp only
          exact ⟨k + 1, by rw [lf], rfl, rfl, nI_1 k, by omega, M1, by rw [ef]; exact S1, F1, F2⟩
      refine t_ite (fun c2 => ?_) (fun c2 => ?_)
      · have c2 := (nI_leI (a := 2) (by omega) (by omega)).mp c2
        rw [L1, show nI 1 = nI (byK (k + 1)) by unfold byK; rw [if_neg (by omega), if_neg (by omega)]]
        exact body
      · have c2 := mt (nI_leI (a := 2) (b := k) (by omega) (by omega)).mpr c2
        rw [L3, nI_sub (by omega)]
        refine t_be (n_dV (by omega) (by omega) (by omega)) ?_
        rw [show byK k / (3 - k) = byK (k + 1) by rcases (by omega : k = 0 ∨ k = 1) with rfl | rfl <;> rfl]
        exact body
  obtain ⟨r, e1, h⟩ := key
  refine ⟨am, r, am1, am2, ?_, h⟩
  unfold fX9_laysOrder
  rw [pU_n, obs, L15, L6, L0]
  rw [L0] at e1
  rw [e1, obs]
