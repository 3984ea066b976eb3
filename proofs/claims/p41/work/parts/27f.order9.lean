section P_27f_order9
/-! letters, orders -/
theorem hs_bit : ∀ m, m < 16 → ∀ l, l < 4 → (((nI m >>> (nI l &&& 31)) &&& 1 = 1) ↔ m.testBit l = true) := by decide +kernel
theorem hs_nI {m l : Nat} (hm : m < 16) (hl : l < 4) : hs (nI m) l ↔ m.testBit l = true := hs_bit m hm l hl
theorem or1_bit : ∀ m, m < 16 → ∀ l, l < 4 → nI m ||| ((1 : Int32) <<< (nI l &&& 31)) = nI (m ||| 2 ^ l) ∧ m ||| 2 ^ l < 16 := by decide +kernel
theorem orn_bit : ∀ a, a < 16 → ∀ b, b < 16 → nI a ||| nI b = nI (a ||| b) ∧ a ||| b < 16 := by decide +kernel
theorem andn_bit : ∀ m, m < 16 → ∀ l, l < 4 → m.testBit l = true → nI m &&& (((1 : Int32) <<< (nI l &&& 31)) ^^^ (-1)) = nI (m - 2 ^ l) := by decide +kernel
theorem pow_bit : ∀ l, l < 4 → ∀ k, k < 4 → ((2 ^ l).testBit k = true ↔ k = l) := by decide +kernel
theorem or_bit (a b l : Nat) : ((a ||| b).testBit l = true) ↔ (a.testBit l = true ∨ b.testBit l = true) := by
  rw [Nat.testBit_or, Bool.or_eq_true]
/-- the n-th letter of a set, from a letter on -/
def sel : Nat → Nat → Nat → Nat → Nat
  | 0, l, _, _ => l
  | f + 1, l, m, s => if m.testBit l = true then (if s = 0 then l else sel f (l + 1) m (s - 1)) else sel f (l + 1) m s
def byK (k : Nat) : Nat := if k = 0 then 6 else if k = 1 then 2 else 1
def lef (o : Nat) : Nat → Nat × Nat
  | 0 => (15, o)
  | k + 1 => ((lef o k).1 - 2 ^ sel 4 0 (lef o k).1 ((lef o k).2 / byK k), (lef o k).2 % byK k)
/-- the k-th letter of an order -/
def ltr (o k : Nat) : Nat := sel 4 0 (lef o k).1 ((lef o k).2 / byK k)
theorem ltr_ok : ∀ o, o < 24 → ∀ k, k < 4 → ltr o k < 4 ∧ (lef o k).1 < 16 ∧ (lef o k).1.testBit (ltr o k) = true ∧ (lef o k).2 < 24 ∧ (lef o k).2 / byK k < 4 := by decide +kernel
/-- the letters of an order that a set has, of its first k -/
def flt (o am : Nat) : Nat → List Nat
  | 0 => []
  | k + 1 => if am.testBit (ltr o k) = true then flt o am k ++ [ltr o k] else flt o am k
def fl4 (o am : Nat) : List Nat := flt o am 4
theorem fl4_mem : ∀ o, o < 24 → ∀ am, am < 16 → ∀ i, i < 4 → (i < (fl4 o am).length → (fl4 o am).getD i 0 < 4 ∧ am.testBit ((fl4 o am).getD i 0) = true) := by decide +kernel
theorem fl4_ne0 : ∀ o, o < 24 → ∀ am, am < 16 → ∀ p, p < 16 → (p % 4 < (fl4 o am).length ∧ p / 4 < p % 4 → ¬ (fl4 o am).getD (p / 4) 0 = (fl4 o am).getD (p % 4) 0) := by decide +kernel
theorem fl4_ne {o am i j : Nat} (ho : o < 24) (ha : am < 16) (hj : j < 4) (h : j < (fl4 o am).length) (hi : i < j) : (fl4 o am).getD i 0 ≠ (fl4 o am).getD j 0 := by
  have := fl4_ne0 o ho am ha (4 * i + j) (by omega)
  rw [show (4 * i + j) % 4 = j by omega, show (4 * i + j) / 4 = i by omega] at this
  exact this ⟨h, hi⟩
theorem flt_len (o am : Nat) : ∀ k, (flt o am k).length ≤ k := by
  intro k
  induction k with
  | zero => exact Nat.le_refl _
  | succ k ih =>
    unfold flt
    split
    · rw [List.length_append]; exact Nat.succ_le_succ ih
    · exact Nat.le_succ_of_le ih
theorem n_dV {a b : Nat} (ha : a < 2 ^ 31) (hb : b < 2 ^ 31) (h : 0 < b) : dV (nI a) (nI b) = some (nI (a / b)) := by
  unfold dV
  rw [if_neg (fun e => by have := nI_inj (b := 0) e hb (by omega); omega)]
  exact congrArg some (Int32.ofNat_div ha hb).symm
theorem n_rM {a b : Nat} (ha : a < 2 ^ 31) (hb : b < 2 ^ 31) (h : 0 < b) : rM (nI a) (nI b) = some (nI (a % b)) := by
  unfold rM
  rw [if_neg (fun e => by have := nI_inj (b := 0) e hb (by omega); omega), show nI a / nI b = nI (a / b) from (Int32.ofNat_div ha hb).symm, nI_mul, nI_sub (Nat.div_mul_le_self a b)]
  have := Nat.div_add_mod a b
  rw [Nat.mul_comm] at this
  rw [show a - a / b * b = a % b by omega]
/-- the letters of a table -/
def Lt (w : Nat) (lt : Nat → Int32) (m : Nat) : Prop := m < 16 ∧ ∀ l, l < 4 → (m.testBit l = true ↔ ∃ c, c < w ∧ lt c = nI l)
theorem n_lettersOf {I0 I : gM} (hM : MI false I0 I) {t w : Nat} (ht : t < 4) (hw : w ≤ 3) (e : I 72 t = nI w) : ∃ m, fX9_lettersOf (nI t) I = some (nI m) ∧ Lt w (fun c => I 73 (3 * t + c)) m := by
  have key : T (lX9_lettersOf_4 (nI t) I (nI 0, nI 0)) (fun r => ∃ m, r = nI m ∧ Lt w (fun c => I 73 (3 * t + c)) m) := by
    unfold lX9_lettersOf_4
    refine t_it (P := fun s => ∃ m i, s = (nI m, nI i) ∧ i ≤ w ∧ Lt i (fun c => I 73 (3 * t + c)) m) (μ := fun s => 20 - s.2.toInt.toNat) (fun s p => ?_) ⟨0, 0, rfl, by omega, by omega, fun l _ => ⟨fun h => by rw [Nat.zero_testBit] at h; exact absurd h (by decide), fun ⟨c, a, _⟩ => by omega⟩⟩
    obtain ⟨m, i, rfl, h1, h2⟩ := p
    dsimp only
    refine t_be (rI_n (by omega) (by omega)) ?_
    rw [e]
    refine t_ite (fun c => ?_) (fun c => ?_)
    · have c := (nI_leI (by omega) (by omega)).mp c
      obtain rfl : i = w := by omega
      exact t_ret (show ∃ m', nI m = nI m' ∧ Lt i (fun c => I 73 (3 * t + c)) m' from ⟨m, rfl, h2⟩)
    · have c := mt (nI_leI (a := w) (b := i) (by omega) (by omega)).mpr c
      rw [a3]
      refine t_be (rI_n (by omega) (by omega)) ?_
      obtain ⟨l, l3, el⟩ := hM.n (k := 73) (j := 3 * t + i) (hi := 3) rfl
      obtain ⟨o1, o2⟩ := or1_bit m h2.1 l (by omega)
      rw [el, o1, nI_1]
      refine t_nx ⟨m ||| 2 ^ l, i + 1, rfl, by omega, o2, fun l' hl => ?_⟩ (by show 20 - (nI (i + 1)).toInt.toNat < 20 - (nI i).toInt.toNat; rw [nIt (by omega), nIt (by omega)]; omega)
      rw [or_bit, h2.2 l' hl, pow_bit l (by omega) l' hl]
      constructor
      · rintro (⟨c', a, b⟩ | z)
        · exact ⟨c', by omega, b⟩
        · exact ⟨i, by omega, by rw [z]; exact el⟩
      · rintro ⟨c', a, b⟩
        rcases (by omega : c' < i ∨ c' = i) with z | z
        · exact Or.inl ⟨c', z, b⟩
        · subst z; exact Or.inr (nI_inj (b.symm.trans el) (by omega) (by omega))
  obtain ⟨r, e1, m, rfl, h⟩ := key
  refine ⟨m, ?_, h⟩
  unfold fX9_lettersOf
  rw [L0, e1, obs]
/-- a letter is asked -/
def ask9 (I : gM) (n l : Nat) : Prop := ∃ t, t < n ∧ hs (I 70 0) t ∧ ∃ c, c < (I 72 t).toInt.toNat ∧ I 73 (3 * t + c) = nI l
theorem n_asked {I0 I : gM} (hM : MI false I0 I) {n : Nat} (hn : n ≤ 4) (e : I 62 17 = nI n) : ∃ am, am < 16 ∧ fX9_asked I = some (nI am) ∧ ∀ l, l < 4 → (am.testBit l = true ↔ ask9 I n l) := by
  have key : T (lX9_asked_4 I (nI 0, nI 0)) (fun r => ∃ am, r = nI am ∧ am < 16 ∧ ∀ l, l < 4 → (am.testBit l = true ↔ ask9 I n l)) := by
    unfold lX9_asked_4
    refine t_it (P := fun s => ∃ am t, s = (nI am, nI t) ∧ t ≤ n ∧ am < 16 ∧ ∀ l, l < 4 → (am.testBit l = true ↔ ask9 I t l)) (μ := fun s => 20 - s.2.toInt.toNat) (fun s p => ?_) ⟨0, 0, rfl, by omega, by omega, fun l _ => ⟨fun h => by rw [Nat.zero_testBit] at h; exact absurd h (by decide), fun ⟨t, a, _⟩ => by omega⟩⟩
    obtain ⟨am, t, rfl, h1, h2, h3⟩ := p
    dsimp only
    refine t_ite (fun c => ?_) (fun c => ?_)
    · rw [e] at c
      have c := (nI_leI (by omega) (by omega)).mp c
      obtain rfl : t = n := by omega
      exact t_ret (show ∃ am', nI am = nI am' ∧ am' < 16 ∧ ∀ l, l < 4 → (am'.testBit l = true ↔ ask9 I t l) from ⟨am, rfl, h2, h3⟩)
    · rw [e] at c
      have c := mt (nI_leI (a := n) (b := t) (by omega) (by omega)).mpr c
      have mu : 20 - (nI t + 1).toInt.toNat < 20 - (nI t).toInt.toNat := by rw [nI_1, nIt (by omega), nIt (by omega)]; omega
      by_cases u : hs (I 70 0) t
      · refine t_be (n_isUsed1 u) ?_
        rw [if_neg (by decide)]
        obtain ⟨w, w3, ew⟩ := hM.n (k := 72) (j := t) (hi := 3) rfl
        obtain ⟨m, em, m1, m2⟩ := n_lettersOf hM (by omega) (by omega) ew
        refine t_be em ?_
        obtain ⟨o1, o2⟩ := orn_bit am h2 m m1
        show T (some (Sum.inl (nI am ||| nI m, nI t + 1))) _
        rw [o1]
        refine t_nx ⟨am ||| m, t + 1, by rw [nI_1], by omega, o2, fun l hl => ?_⟩ mu
        rw [or_bit, h3 l hl, m2 l hl]
        constructor
        · rintro (⟨t', a, b⟩ | ⟨c', a, b⟩)
          · exact ⟨t', by omega, b⟩
          · exact ⟨t, by omega, u, c', by rw [ew, nIt (by omega)]; exact a, b⟩
        · rintro ⟨t', a, b, c', d, f⟩
          rcases (by omega : t' < t ∨ t' = t) with z | z
          · exact Or.inl ⟨t', z, b, c', d, f⟩
          · subst z
            rw [ew, nIt (by omega)] at d
            exact Or.inr ⟨c', d, f⟩
      · refine t_be (n_isUsed0 u) ?_
        rw [if_pos rfl]
        show T (some (Sum.inl (nI am ||| nI 0, nI t + 1))) _
        obtain ⟨o1, o2⟩ := orn_bit am h2 0 (by omega)
        rw [o1, Nat.or_zero]
        refine t_nx ⟨am, t + 1, by rw [nI_1], by omega, h2, fun l hl => ?_⟩ mu
        rw [h3 l hl]
        constructor
        · rintro ⟨t', a, b⟩; exact ⟨t', by omega, b⟩
        · rintro ⟨t', a, b, c'⟩
          rcases (by omega : t' < t ∨ t' = t) with z | z
          · exact ⟨t', z, b, c'⟩
          · subst z; exact absurd b u
  obtain ⟨r, e1, am, rfl, h2, h3⟩ := key
  refine ⟨am, h2, ?_, h3⟩
  unfold fX9_asked
  rw [L0, e1, obs]
theorem n_laysOrder56 {m s : Nat} (hm : m < 16) (hs' : s < 4) (h4 : sel 4 0 m s < 4) : lX9_laysOrder_56 (nI m) (nI s, nI 0) = some (nI (sel 4 0 m s)) := by
  have key : T (lX9_laysOrder_56 (nI m) (nI s, nI 0)) (fun r => r = nI (sel 4 0 m s)) := by
    unfold lX9_laysOrder_56
    refine t_it (P := fun x => ∃ s' l f, x = (nI s', nI l) ∧ l + f = 4 ∧ s' < 4 ∧ sel f l m s' = sel 4 0 m s) (μ := fun x => 20 - x.2.toInt.toNat) (fun x p => ?_) ⟨s, 0, 4, rfl, rfl, hs', rfl⟩
    obtain ⟨s', l, f, rfl, h1, h2, h3⟩ := p
    cases f with
    | zero =>
      exfalso
      have : l = sel 4 0 m s := h3
      omega
    | succ f =>
      dsimp only
      have mu : 20 - (nI l + 1).toInt.toNat < 20 - (nI l).toInt.toNat := by rw [nI_1, nIt (by omega), nIt (by omega)]; omega
      have h3' : (if m.testBit l = true then (if s' = 0 then l else sel f (l + 1) m (s' - 1)) else sel f (l + 1) m s') = sel 4 0 m s := h3
      by_cases b : m.testBit l = true
      · rw [if_pos b] at h3'
        have b1 := n_has1 ((hs_nI hm (by omega)).mpr b)
        refine t_be b1 ?_
        rw [if_neg (by decide)]
        refine t_ite (fun c => ?_) (fun c => ?_)
        · have c := (nI_leI (b := 0) (by omega) (by omega)).mp c
          rw [if_pos (by omega)] at h3'
          exact t_ret (show nI l = nI (sel 4 0 m s) by rw [h3'])
        · have c := mt (nI_leI (a := s') (b := 0) (by omega) (by omega)).mpr c
          rw [if_neg (by omega)] at h3'
          unfold bX9_laysOrder_70
          refine t_be b1 ?_
          rw [if_neg (by decide)]
          show T (some (Sum.inl (nI s' - 1, nI l + 1))) _
          rw [nI_s1 (by omega)]
          exact t_nx ⟨s' - 1, l + 1, f, by rw [nI_1], by omega, by omega, h3'⟩ mu
      · rw [if_neg b] at h3'
        have b1 := n_has0 (mt (hs_nI hm (by omega)).mp b)
        refine t_be b1 ?_
        rw [if_pos rfl]
        unfold bX9_laysOrder_70
        refine t_be b1 ?_
        rw [if_pos rfl]
        show T (some (Sum.inl (nI s' - nI 0, nI l + 1))) _
        rw [nI_sub (by omega)]
        exact t_nx ⟨s', l + 1, f, by rw [nI_1]; rfl, by omega, h2, h3'⟩ mu
  obtain ⟨r, e, h⟩ := key
  rw [e, h]
/-- the letters asked, in order -/
def Sq (I : gM) (ls : List Nat) : Prop := I 62 19 = nI ls.length ∧ ∀ d, d < ls.length → I 74 d = nI (ls.getD d 0)
theorem n_laysOrder {I0 I : gM} (hM : MI false I0 I) {n o : Nat} (hn : n ≤ 4) (e : I 62 17 = nI n) (ho : o < 24) : ∃ am r, am < 16 ∧ (∀ l, l < 4 → (am.testBit l = true ↔ ask9 I n l)) ∧ fX9_laysOrder (nI o) I = some r ∧ MI false I0 r ∧ Sq r (fl4 o am) ∧ (∀ k, k ≠ 62 → k ≠ 74 → r k = I k) ∧ ∀ j, j ≠ 19 → r 62 j = I 62 j := by
  obtain ⟨am, am1, ea, am2⟩ := n_asked hM hn e
  have key : T (lX9_laysOrder_17 (nI 15, nI o, nI 6, nI 0, g_up I 62 19 0)) (fun r => MI false I0 r ∧ Sq r (fl4 o am) ∧ (∀ k, k ≠ 62 → k ≠ 74 → r k = I k) ∧ ∀ j, j ≠ 19 → r 62 j = I 62 j) := by
    unfold lX9_laysOrder_17
    refine t_it (P := fun s => ∃ k, s.1 = nI (lef o k).1 ∧ s.2.1 = nI (lef o k).2 ∧ s.2.2.1 = nI (byK k) ∧ s.2.2.2.1 = nI k ∧ k ≤ 4 ∧ MI false I0 s.2.2.2.2 ∧ Sq s.2.2.2.2 (flt o am k) ∧ (∀ q, q ≠ 62 → q ≠ 74 → s.2.2.2.2 q = I q) ∧ ∀ j, j ≠ 19 → s.2.2.2.2 62 j = I 62 j) (μ := fun s => 20 - s.2.2.2.1.toInt.toNat) (fun s p => ?_)
      ⟨0, rfl, rfl, rfl, rfl, by omega, hM.up (k := 62) rfl (lo := 0) (hi := 4) rfl (by decide) (by decide), ⟨by show g_up I 62 19 0 62 19 = _; rw [g_up_self]; rfl, fun d hd => absurd hd (Nat.not_lt_zero _)⟩, fun q y1 y2 => g_up_row y1, fun j hj => g_up_ne (Or.inr hj)⟩
    obtain ⟨s1, s2, s3, s4, I1⟩ := s
    obtain ⟨k, e1, e2, e3, e4, h1, M1, S1, F1, F2⟩ := p
    dsimp only at e1 e2 e3 e4 M1 S1 F1 F2
    subst e1 e2 e3 e4
    dsimp only
    refine t_ite (fun c => ?_) (fun c => ?_)
    · have c := (nI_leI (a := 4) (by omega) (by omega)).mp c
      obtain rfl : k = 4 := by omega
      exact t_ret ⟨M1, S1, F1, F2⟩
    · have c := mt (nI_leI (a := 4) (b := k) (by omega) (by omega)).mpr c
      obtain ⟨y1, y2, y3, y4, y5⟩ := ltr_ok o ho k (by omega)
      have by6 : byK k ≤ 6 ∧ 0 < byK k := by unfold byK; split <;> (try split) <;> omega
      refine t_be (n_dV (by omega) (by omega) by6.2) (t_be (n_rM (by omega) (by omega) by6.2) ?_)
      have F17 : I1 62 17 = nI n := by rw [F2 17 (by omega)]; exact e
      have F0 : ∀ l, ask9 I1 n l ↔ ask9 I n l := fun l => by
        unfold ask9
        rw [F1 70 (by omega) (by omega), F1 72 (by omega) (by omega), F1 73 (by omega) (by omega)]
      obtain ⟨am', z1, z2, z3⟩ := n_asked M1 hn F17
      have ask : fX9_asked I1 = some (nI am) := by
        rw [z2]
        have : am' = am := Nat.eq_of_testBit_eq (fun l => by
          by_cases hl : l < 4
          · have a := z3 l hl
            rw [F0, ← am2 l hl] at a
            cases h1 : am'.testBit l <;> cases h2 : am.testBit l <;> simp_all
          · have p1 : (2 : Nat) ^ 4 ≤ 2 ^ l := Nat.pow_le_pow_right (by omega) (by omega)
            rw [Nat.testBit_lt_two_pow (Nat.lt_of_lt_of_le z1 p1), Nat.testBit_lt_two_pow (Nat.lt_of_lt_of_le am1 p1)])
        rw [this]
      have mu : 20 - (nI k + 1).toInt.toNat < 20 - (nI k).toInt.toNat := by rw [nI_1, nIt (by omega), nIt (by omega)]; omega
      have body : T (bX9_laysOrder_51 (nI (lef o k).1) (nI ((lef o k).2 % byK k)) (nI k) (nI ((lef o k).2 / byK k)) (nI (byK (k + 1))) I1) (LQ (fun s => ∃ k, s.1 = nI (lef o k).1 ∧ s.2.1 = nI (lef o k).2 ∧ s.2.2.1 = nI (byK k) ∧ s.2.2.2.1 = nI k ∧ k ≤ 4 ∧ MI false I0 s.2.2.2.2 ∧ Sq s.2.2.2.2 (flt o am k) ∧ (∀ q, q ≠ 62 → q ≠ 74 → s.2.2.2.2 q = I q) ∧ ∀ j, j ≠ 19 → s.2.2.2.2 62 j = I 62 j) (20 - (nI k).toInt.toNat) (fun s => 20 - s.2.2.2.1.toInt.toNat) (fun r => MI false I0 r ∧ Sq r (fl4 o am) ∧ (∀ k, k ≠ 62 → k ≠ 74 → r k = I k) ∧ ∀ j, j ≠ 19 → r 62 j = I 62 j)) := by
        unfold bX9_laysOrder_51
        refine t_be (n_laysOrder56 y2 y5 y1) (t_be ask ?_)
        show T ((fX9_has (nI am) (nI (ltr o k))).bind _) _
        rw [show sel 4 0 (lef o k).1 ((lef o k).2 / byK k) = ltr o k from rfl, andn_bit _ y2 _ y1 y3]
        have lf : (lef o (k + 1)).1 = (lef o k).1 - 2 ^ ltr o k := rfl
        have fl := flt_len o am k
        by_cases b : am.testBit (ltr o k) = true
        · have ef : flt o am (k + 1) = flt o am k ++ [ltr o k] := if_pos b
          refine t_be (n_has1 ((hs_nI am1 y1).mpr b)) ?_
          rw [if_neg (by decide), S1.1]
          refine t_be (wI_n (by omega) (by omega)) ?_
          rw [g_up_row (by omega), S1.1, nI_1]
          refine t_be pU_n ?_
          unfold bX9_laysOrder_137
          refine t_nx ?_ mu
          dsimp only
          refine ⟨k + 1, by rw [lf], rfl, rfl, nI_1 k, by omega, (M1.up (k := 74) rfl (lo := 0) (hi := 3) rfl (by rw [tnI (by omega)]; omega) (by rw [tnI (by omega)]; omega)).up (k := 62) rfl (lo := 0) (hi := 4) rfl (by rw [tnI (by omega)]; omega) (by rw [tnI (by omega)]; omega), ⟨by rw [g_up_self, ef, List.length_append]; rfl, fun d hd => ?_⟩, fun q z1 z2 => ?_, fun j hj => ?_⟩
          · rw [ef, List.length_append] at hd
            have hd : d < (flt o am k).length + 1 := hd
            rw [g_up_row (by omega), gu_in, ef]
            by_cases z : d = (flt o am k).length
            · rw [if_pos z, z, List.getD_eq_getElem?_getD, List.getElem?_append_right (Nat.le_refl _), Nat.sub_self]; rfl
            · rw [if_neg z, S1.2 d (by omega), List.getD_eq_getElem?_getD, List.getD_eq_getElem?_getD, List.getElem?_append_left (by omega)]
          · rw [g_up_row z1, g_up_row z2]; exact F1 q z1 z2
          · rw [g_up_ne (Or.inr hj), g_up_row (by omega)]; exact F2 j hj
        · have ef : flt o am (k + 1) = flt o am k := if_neg b
          refine t_be (n_has0 (mt (hs_nI am1 y1).mp b)) ?_
          rw [if_pos rfl]
          unfold bX9_laysOrder_137
          refine t_nx ?_ mu
          dsimp only
          exact ⟨k + 1, by rw [lf], rfl, rfl, nI_1 k, by omega, M1, by rw [ef]; exact S1, F1, F2⟩
      refine t_ite (fun c2 => ?_) (fun c2 => ?_)
      · have c2 := (nI_leI (a := 2) (by omega) (by omega)).mp c2
        rw [L1, show nI 1 = nI (byK (k + 1)) by unfold byK; rw [if_neg (by omega), if_neg (by omega)]]
        exact body
      · have c2 := mt (nI_leI (a := 2) (b := k) (by omega) (by omega)).mpr c2
        rw [L3, nI_sub (by omega)]
        refine t_be (n_dV (by omega) (by omega) (by omega)) ?_
        rw [show byK k / (3 - k) = byK (k + 1) by rcases (by omega : k = 0 ∨ k = 1) with rfl | rfl <;> rfl]
        exact body
  obtain ⟨r, e1, h⟩ := key
  refine ⟨am, r, am1, am2, ?_, h⟩
  unfold fX9_laysOrder
  rw [pU_n, obs, L15, L6, L0]
  rw [L0] at e1
  rw [e1, obs]
end P_27f_order9
section P_27g_joins9
/-! the reference's join -/
theorem CO.uniq {w : Nat} {lt : Nat → Int32} {l r r' : Int32} (hw : w ≤ 3) (h : CO w lt l r) (h' : CO w lt l r') : r = r' := by
  rcases h with ⟨i, h1, h2, h3, h4⟩ | ⟨h1, h2⟩ <;> rcases h' with ⟨i', h1', h2', h3', h4'⟩ | ⟨h1', h2'⟩
  · have : i = i' := by
      rcases (by omega : i < i' ∨ i = i' ∨ i' < i) with z | z | z
      · exact absurd h3 (h4' i z)
      · exact z
      · exact absurd h3' (h4 i' z)
    rw [h2, h2', this]
  · exact absurd h3 (h2' i h1)
  · exact absurd h3' (h2 i' h1')
  · rw [h1, h1']
theorem fl4_has : ∀ o, o < 24 → ∀ am, am < 16 → ∀ l, l < 4 → am.testBit l = true → (fl4 o am).contains l = true := by decide +kernel
/-- the rows of the join are made of numbers of the tables -/
def GJ9 (r : gM) : Prop := ∃ n J, n ≤ 4 ∧ J ≤ 20736 ∧ r 62 17 = nI n ∧ r 62 26 = nI J ∧ ∀ j, j < J → ∀ l, l < 4 → ∀ t, t < n → hs (r 70 0) t → ∀ c, c < 3 → CO (r 72 t).toInt.toNat (fun c => r 73 (3 * t + c)) (nI l) (nI c) → ∃ i, i < (r 70 (2 + t)).toInt.toNat ∧ r 70 (6 + 3 * (12 * t + i) + c) = r 80 (4 * j + l)
theorem n_joins17 {I0 I : gM} (hM : MI false I0 I) : T (lX9_joins_17 (nI 0, I)) (fun r => MI false I0 r ∧ (∀ l, l < 4 → r 75 l = -1) ∧ (∀ l, 1 ≤ l → l < 5 → r 79 l = 0) ∧ (∀ k, k ≠ 75 → k ≠ 79 → r k = I k)) := by
  unfold lX9_joins_17
  refine t_it (P := fun s => ∃ l, s.1 = nI l ∧ l ≤ 4 ∧ MI false I0 s.2 ∧ (∀ l', l' < l → s.2 75 l' = -1) ∧ (∀ l', 1 ≤ l' → l' < l + 1 → s.2 79 l' = 0) ∧ (∀ k, k ≠ 75 → k ≠ 79 → s.2 k = I k)) (μ := fun s => 20 - s.1.toInt.toNat) (fun s p => ?_) ⟨0, rfl, by omega, hM, fun l a => by omega, fun l a b => by omega, fun _ _ _ => rfl⟩
  obtain ⟨s1, s2⟩ := s
  obtain ⟨l, e1, h1, hM2, h2, h3, h4⟩ := p
  dsimp only at e1 hM2 h2 h3 h4
  subst e1
  dsimp only
  refine t_ite (fun c => ?_) (fun c => ?_)
  · have c := (nI_leI (a := 4) (by omega) (by omega)).mp c
    obtain rfl : l = 4 := by omega
    exact t_ret ⟨hM2, h2, h3, h4⟩
  · have c := mt (nI_leI (a := 4) (b := l) (by omega) (by omega)).mpr c
    refine t_be (wI_n (by omega) (by omega)) ?_
    rw [nI_1]
    refine t_be (wI_n (by omega) (by omega)) ?_
    refine t_nx ?_ (by show 20 - (nI (l + 1)).toInt.toNat < 20 - (nI l).toInt.toNat; rw [nIt (by omega), nIt (by omega)]; omega)
    dsimp only
    refine ⟨l + 1, rfl, by omega, (hM2.up (k := 75) rfl (lo := -1) (hi := 99) rfl (by decide) (by decide)).up (k := 79) rfl (lo := -2147483648) (hi := 2147483647) rfl (tTop _).1 (tTop _).2, fun l' a => ?_, fun l' a b => ?_, fun k y1 y2 => ?_⟩
    · rw [g_up_row (by omega), gu_in]
      by_cases z : l' = l
      · rw [if_pos z]
      · rw [if_neg z]; exact h2 l' (by omega)
    · rw [gu_in]
      by_cases z : l' = l + 1
      · rw [if_pos z]
      · rw [if_neg z, g_up_row (by omega)]; exact h3 l' a (by omega)
    · rw [g_up_row y2, g_up_row y1]; exact h4 k y1 y2
theorem Bs_of {I0 I : gM} (hM : MI false I0 I) : ∃ n D, Bs I n D := by
  obtain ⟨n, n4, en⟩ := hM.n (k := 62) (j := 17) (hi := 4) rfl
  obtain ⟨D, D4, eD⟩ := hM.n (k := 62) (j := 19) (hi := 4) rfl
  refine ⟨n, D, n4, D4, en, eD, fun t ht => hM.n (k := 70) (hi := 12) ?_, fun t ht => hM.n (k := 72) (hi := 3) rfl, fun d hd => ?_⟩
  · have := rgMany (x := ((2 + t : Nat) : Int)) (by omega) (by omega)
    rwa [show ((2 + t : Nat) : Int).toNat = 2 + t by omega] at this
  · obtain ⟨l, l3, el⟩ := hM.n (k := 74) (j := d) (hi := 3) rfl
    exact ⟨l, by omega, el⟩
/-- what stands ready when the search begins -/
theorem n_joinsB {I0 I : gM} (hM : MI false I0 I) {o : Nat} (ho : o < 24) : ∃ am B n, am < 16 ∧ (∀ l, l < 4 → (am.testBit l = true ↔ ask9 I n l)) ∧ fX9_joins (nI o) I = (fX9_goes 6 (nI 0) B).bind (fun r => some r) ∧ MI false I0 B ∧ Bs B n (fl4 o am).length ∧ Sq B (fl4 o am) ∧ Dp B n (fl4 o am).length ∧ B 62 26 = nI 0 ∧ B 62 27 = nI 0 ∧ (∀ l, l < 4 → B 75 l = -1) ∧ (∀ l, 1 ≤ l → l < 5 → B 79 l = 0) ∧ (∀ k, k ≠ 62 → k ≠ 74 → k ≠ 75 → k ≠ 79 → B k = I k) ∧ ∀ j, j ≠ 19 → j ≠ 26 → j ≠ 27 → B 62 j = I 62 j := by
  obtain ⟨n, n4, en⟩ := hM.n (k := 62) (j := 17) (hi := 4) rfl
  obtain ⟨am, r, am1, am2, e1, r1, r2, r3, r4⟩ := n_laysOrder hM (n := n) (by omega) en ho
  have M2 : MI false I0 (g_up (g_up r 62 26 0) 62 27 0) := (r1.up (k := 62) rfl (lo := 0) (hi := 20736) rfl (by decide) (by decide)).up (k := 62) rfl (lo := -2147483648) (hi := 2147483647) rfl (by decide) (by decide)
  obtain ⟨B, eB, b1, b2, b3, b4⟩ := n_joins17 M2
  have bk : ∀ k, k ≠ 62 → k ≠ 74 → k ≠ 75 → k ≠ 79 → B k = I k := fun k y1 y2 y3 y4 => by rw [b4 k y3 y4, g_up_row y1, g_up_row y1, r3 k y1 y2]
  have bj : ∀ j, j ≠ 19 → j ≠ 26 → j ≠ 27 → B 62 j = I 62 j := fun j y1 y2 y3 => by rw [b4 62 (by omega) (by omega), g_up_ne (Or.inr y3), g_up_ne (Or.inr y2), r4 j y1]
  have bS : Sq B (fl4 o am) := ⟨by rw [b4 62 (by omega) (by omega), g_up_ne (Or.inr (by omega)), g_up_ne (Or.inr (by omega))]; exact r2.1, fun d hd => by rw [b4 74 (by omega) (by omega), g_up_row (by omega), g_up_row (by omega)]; exact r2.2 d hd⟩
  have l4 : (fl4 o am).length ≤ 4 := flt_len o am 4
  have bB : Bs B n (fl4 o am).length := by
    obtain ⟨n', D', q1, q2, q3, q4, q5, q6, q7⟩ := Bs_of b1
    exact ⟨by omega, l4, by rw [bj 17 (by omega) (by omega) (by omega)]; exact en, bS.1, q5, q6, q7⟩
  have bl : ∀ d, d < (fl4 o am).length → lo B d = (fl4 o am).getD d 0 := fun d hd => by
    unfold lo
    rw [bS.2 d hd, nIt (by have := (fl4_mem o ho am am1 d (by omega) hd).1; omega)]
  refine ⟨am, B, n, am1, am2, ?_, b1, bB, bS, ⟨fun d e hd he hne => ?_, fun d hd => ?_⟩, ?_, ?_, b2, b3, bk, bj⟩
  · unfold fX9_joins
    rw [e1, obs, pU_n, obs, pU_n, obs]
    rw [L0] at eB ⊢
    rw [eB, obs]
  · rw [bl d hd, bl e he]
    rcases (by omega : d < e ∨ e < d) with z | z
    · exact fl4_ne ho am1 (by omega) he z
    · exact (fl4_ne ho am1 (by omega) hd z).symm
  · obtain ⟨m1, m2⟩ := fl4_mem o ho am am1 d (by omega) hd
    obtain ⟨t, t1, t2, c, c1, c2⟩ := (am2 _ m1).mp m2
    refine ⟨t, t1, ?_, fun q => ?_⟩
    · rw [bk 70 (by omega) (by omega) (by omega) (by omega)]; exact t2
    · obtain ⟨w, w3, ew⟩ := bB.2.2.2.2.2.1 t (by omega)
      obtain ⟨x, ex, cx⟩ := n_columnOf (I := B) (t := t) (by omega) w3 ew (B 74 d)
      have hx : x = cv B t d := by unfold cv; rw [ex]; rfl
      rw [hx, q, bS.2 d hd] at cx
      rcases cx with ⟨i, i1, i2, i3⟩ | ⟨_, i2⟩
      · exact nI_m1 (by omega) i2.symm
      · refine i2 c ?_ ?_
        · rw [← bk 72 (by omega) (by omega) (by omega) (by omega), ew, nIt (by omega)] at c1; exact c1
        · show B 73 (3 * t + c) = _
          rw [bk 73 (by omega) (by omega) (by omega) (by omega)]; exact c2
  · rw [b4 62 (by omega) (by omega), g_up_ne (Or.inr (by omega)), g_up_self]; rfl
  · rw [b4 62 (by omega) (by omega), g_up_self]; rfl
theorem tfX9_joins {I0 : gM} (v1 : Int32) (I : gM) (hM : MI false I0 I) (av1 : 0 ≤ v1.toInt ∧ v1.toInt ≤ 23) : T (fX9_joins v1 I) (fun r => MI false I0 r ∧ (GJ9 r)) := by
  have ev : v1 = nI v1.toInt.toNat := nI_self av1.1
  obtain ⟨o, ho⟩ : ∃ o, o = v1.toInt.toNat := ⟨_, rfl⟩
  have ho24 : o < 24 := by omega
  rw [ev, ← ho]
  obtain ⟨am, B, n, am1, am2, e, b1, b2, b3, b4, b5, b6, b7, b8, b9, b10⟩ := n_joinsB hM ho24
  rw [e]
  have l4 : (fl4 o am).length ≤ 4 := flt_len o am 4
  have n4 := b2.1
  have pw : 12 ^ ((fl4 o am).length - 0) ≤ 12 ^ 4 := Nat.pow_le_pow_right (by omega) (by omega)
  refine t_bind (n_goes b2 b4 6 0 (by omega) (by omega) B 0 b1 ⟨rfl, rfl, rfl, rfl, rfl, rfl⟩ b5 (by omega) (fun e he => by omega)) (fun r hr => t_ret ?_)
  obtain ⟨r1, r2, ⟨J, J1, J2, J3, J4, _, _⟩, r3⟩ := hr
  refine ⟨r1, n, J, n4, by omega, r2.1.trans b2.2.2.1, J1, fun j hj l hl t ht hu c hc hco => ?_⟩
  have eR : r 70 = B 70 := r2.2.2.1
  rw [eR] at hu ⊢
  rw [r2.2.2.2.1, r2.2.2.2.2.1] at hco
  obtain ⟨w, w3, ew⟩ := b2.2.2.2.2.2.1 t (by omega)
  rw [ew, nIt (by omega)] at hco
  have ha : ask9 I n l := by
    obtain ⟨i, i1, i2, i3⟩ := hco.lt w3 (nI_m1 (by omega))
    refine ⟨t, ht, by rw [← b9 70 (by omega) (by omega) (by omega) (by omega)]; exact hu, i, ?_, ?_⟩
    · rw [← b9 72 (by omega) (by omega) (by omega) (by omega), ew, nIt (by omega)]; exact i1
    · rw [← b9 73 (by omega) (by omega) (by omega) (by omega)]; exact i3
  have hmem : l ∈ fl4 o am := List.contains_iff_mem.mp (fl4_has o ho24 am am1 l hl ((am2 l hl).mpr ha))
  obtain ⟨d, hd, ed⟩ := List.mem_iff_getElem.mp hmem
  have eg : (fl4 o am).getD d 0 = l := by rw [List.getD_eq_getElem?_getD, List.getElem?_eq_getElem hd]; exact ed
  have e74 : B 74 d = nI l := by rw [b3.2 d hd, eg]
  have el : lo B d = l := by unfold lo; rw [e74, nIt (by omega)]
  obtain ⟨x, ex, cx⟩ := n_columnOf (I := B) (t := t) (by omega) w3 ew (B 74 d)
  have hx : x = cv B t d := by unfold cv; rw [ex]; rfl
  rw [e74] at cx
  have hcv : cv B t d = nI c := by rw [← hx]; exact cx.uniq w3 hco
  have hcn : cn B t d = c := by unfold cn; rw [hcv, nIt (by omega)]
  obtain ⟨i, i1, i2⟩ := J4 j (by omega) hj d hd t ht ⟨hu, by rw [hcv]; exact nI_m1 (by omega)⟩
  refine ⟨i, i1, ?_⟩
  unfold vl at i2
  rw [hcn, el] at i2
  exact i2
/-- the search's end, and what it says -/
theorem n_joinsQ {I0 I : gM} (hM : MI false I0 I) {o : Nat} (ho : o < 24) : ∃ am B n r J, am < 16 ∧ (∀ l, l < 4 → (am.testBit l = true ↔ ask9 I n l)) ∧ fX9_joins (nI o) I = some r ∧ MI false I0 B ∧ Bs B n (fl4 o am).length ∧ Sq B (fl4 o am) ∧ Dp B n (fl4 o am).length ∧ (∀ k, k ≠ 62 → k ≠ 74 → k ≠ 75 → k ≠ 79 → B k = I k) ∧ (∀ j, j ≠ 19 → j ≠ 26 → j ≠ 27 → B 62 j = I 62 j) ∧ Cx B r ∧ r 62 26 = nI J ∧ J ≤ 20736 ∧ (∀ j, j < J → Cs B n (fl4 o am).length 0 (fun e => r 80 (4 * j + lo B e))) ∧ ∀ g, Cs B n (fl4 o am).length 0 g → 0 < J := by
  obtain ⟨am, B, n, am1, am2, e, b1, b2, b3, b4, b5, b6, b7, b8, b9, b10⟩ := n_joinsB hM ho
  have l4 : (fl4 o am).length ≤ 4 := flt_len o am 4
  have pw : 12 ^ ((fl4 o am).length - 0) ≤ 12 ^ 4 := Nat.pow_le_pow_right (by omega) (by omega)
  obtain ⟨r, er, r1, r2, ⟨J, J1, J2, J3, J4, J5, J6⟩, r3⟩ := n_goes b2 b4 6 0 (by omega) (by omega) B 0 b1 ⟨rfl, rfl, rfl, rfl, rfl, rfl⟩ b5 (by omega) (fun e he => by omega)
  exact ⟨am, B, n, r, J, am1, am2, by rw [e, er]; rfl, b1, b2, b3, b4, b9, b10, r2, J1, by omega, fun j hj => (J5 j (by omega) hj).2, fun g hg => J6 g (fun e he => by omega) hg⟩
theorem ask9_c {I I' : gM} (h70 : I' 70 = I 70) (h72 : I' 72 = I 72) (h73 : I' 73 = I 73) (n l : Nat) : ask9 I' n l ↔ ask9 I n l := by
  unfold ask9
  rw [h70, h72, h73]
/-- a join is empty or not by the tables alone -/
theorem joins_pos {I0 I I' : gM} (hM : MI false I0 I) (hM' : MI false I0 I') {o : Nat} (ho : o < 24) (h17 : I' 62 17 = I 62 17) (h70 : I' 70 = I 70) (h72 : I' 72 = I 72) (h73 : I' 73 = I 73) {r r' : gM} (e : fX9_joins (nI o) I = some r) (e' : fX9_joins (nI o) I' = some r') (h : 0 < (r 62 26).toInt) : 0 < (r' 62 26).toInt := by
  obtain ⟨am, B, n, r1, J, a1, a2, a3, a4, a5, a6, a7, a8, a9, a10, a11, a12, a13, a14⟩ := n_joinsQ hM ho
  obtain ⟨am', B', n', r1', J', b1, b2, b3, b4, b5, b6, b7, b8, b9, b10, b11, b12, b13, b14⟩ := n_joinsQ hM' ho
  obtain rfl := Option.some.inj (e.symm.trans a3)
  obtain rfl := Option.some.inj (e'.symm.trans b3)
  have n4 := a5.1
  have n4' := b5.1
  obtain rfl : n' = n := nI_inj (b5.2.2.1.symm.trans ((b9 17 (by omega) (by omega) (by omega)).trans (h17.trans ((a9 17 (by omega) (by omega) (by omega)).symm.trans a5.2.2.1)))) (by omega) (by omega)
  have eam : am' = am := Nat.eq_of_testBit_eq (fun l => by
    by_cases hl : l < 4
    · have a := b2 l hl
      rw [ask9_c h70 h72 h73, ← a2 l hl] at a
      cases h1 : am'.testBit l <;> cases h2 : am.testBit l <;> simp_all
    · have p1 : (2 : Nat) ^ 4 ≤ 2 ^ l := Nat.pow_le_pow_right (by omega) (by omega)
      rw [Nat.testBit_lt_two_pow (Nat.lt_of_lt_of_le b1 p1), Nat.testBit_lt_two_pow (Nat.lt_of_lt_of_le a1 p1)])
  subst eam
  have q70 : B' 70 = B 70 := by rw [b8 70 (by omega) (by omega) (by omega) (by omega), h70, a8 70 (by omega) (by omega) (by omega) (by omega)]
  have q72 : B' 72 = B 72 := by rw [b8 72 (by omega) (by omega) (by omega) (by omega), h72, a8 72 (by omega) (by omega) (by omega) (by omega)]
  have q73 : B' 73 = B 73 := by rw [b8 73 (by omega) (by omega) (by omega) (by omega), h73, a8 73 (by omega) (by omega) (by omega) (by omega)]
  have q74 : ∀ d, d < (fl4 o am').length → B' 74 d = B 74 d := fun d hd => by rw [b6.2 d hd, a6.2 d hd]
  have qcv : ∀ t d, d < (fl4 o am').length → cv B' t d = cv B t d := fun t d hd => by
    unfold cv
    rw [q74 d hd]
    unfold fX9_columnOf lX9_columnOf_2
    rw [q72, q73]
  have qvl : ∀ t i d, d < (fl4 o am').length → vl B' t i d = vl B t i d := fun t i d hd => by
    unfold vl cn
    rw [qcv t d hd, q70]
  have J0 : 0 < J := by
    rw [a11, tnI (by omega)] at h; omega
  have hc := a13 0 J0
  have : 0 < J' := b14 (fun e => r 80 (4 * 0 + lo B e)) (fun e h1 h2 t ht q => by
    have q' : inn B t e := by
      unfold inn at q ⊢
      rw [q70, qcv t e h2] at q; exact q
    obtain ⟨i, i1, i2, i3⟩ := hc e h1 h2 t ht q'
    refine ⟨i, by unfold mn; rw [q70]; exact i1, fun e' he' => ?_, by rw [qvl t i e h2]; exact i3⟩
    rw [qcv t e' (by omega), qvl t i e' (by omega)]; exact i2 e' he')
  rw [b11, tnI (by omega)]; omega
end P_27g_joins9
section P_28a_safe9b
set_option maxRecDepth 100000 in
set_option maxHeartbeats 1000000 in
theorem tlX9_columnOf_2 {I0 : gM} (v1 : Int32) (v2 : Int32) (I : gM) (hM : MI false I0 I) (av1 : 0 ≤ v1.toInt ∧ v1.toInt ≤ 3) (s : Int32) (hP : (0 ≤ (s).toInt ∧ (s).toInt ≤ 2147483647)) : T (lX9_columnOf_2 v1 v2 I s) (Sum.elim (fun r : Int32 => (0 ≤ r.toInt ∧ r.toInt ≤ 2)) (fun r : Unit => True)) := by
  unfold lX9_columnOf_2
  refine t_it (P := fun s : Int32 => (0 ≤ (s).toInt ∧ (s).toInt ≤ 2147483647)) (μ := fun s : Int32 => (2147483648 - s.toInt).toNat) (fun s p => ?_) hP
  have b0 : (0 ≤ (s).toInt ∧ (s).toInt ≤ 2147483647) := p
  refine t_rI (lo := 0) (hi := 3) hM (fun _ _ => rfl) rfl (by omega) (by omega) (fun u1 eu1 bu1 => ?_)
  refine t_ite (fun c1 => ?_) (fun c1 => ?_)
  · have c1i := (iLE (a := u1) (b := s) rfl rfl).mp c1
    exact t_ret (show True from trivial)
  · have c1i := mt (iLE (a := u1) (b := s) rfl rfl).mpr c1
    refine t_rI (lo := 0) (hi := 3) hM (fun _ _ => rfl) (tA (tM (by decide : (3 : Int32).toInt = 3) rfl (by omega) (by omega)) rfl (by omega) (by omega)) (by omega) (by omega) (fun u2 eu2 bu2 => ?_)
    refine t_ite (fun c2 => ?_) (fun c2 => ?_)
    · have c2i := (iEQ (a := u2) (b := v2) rfl rfl).mp c2
      exact t_ret (show (0 ≤ (s).toInt ∧ (s).toInt ≤ 2) from (by omega))
    · have c2i := mt (iEQ (a := u2) (b := v2) rfl rfl).mpr c2
      have m0 := ((tA rfl (by decide : (1 : Int32).toInt = 1) (by omega) (by omega)) : (s + 1).toInt = (s.toInt + 1))
      have mm : (2147483648 - (s + 1).toInt).toNat < (2147483648 - s.toInt).toNat := by omega
      have pp : (0 ≤ ((s + 1)).toInt ∧ ((s + 1)).toInt ≤ 2147483647) := (by show (0 ≤ ((s + 1)).toInt ∧ ((s + 1)).toInt ≤ 2147483647); have q := ((tA rfl (by decide : (1 : Int32).toInt = 1) (by omega) (by omega)) : (s + 1).toInt = (s.toInt + 1)); omega)
      exact t_ret ⟨pp, mm⟩
set_option maxRecDepth 100000 in
set_option maxHeartbeats 1000000 in
theorem tfX9_columnOf {I0 : gM} (v1 : Int32) (v2 : Int32) (I : gM) (hM : MI false I0 I) (av1 : 0 ≤ v1.toInt ∧ v1.toInt ≤ 3) : T (fX9_columnOf v1 v2 I) (fun r => ((-1) ≤ r.toInt ∧ r.toInt ≤ 2)) := by
  unfold fX9_columnOf
  refine t_bindE (tlX9_columnOf_2 v1 v2 I hM (by omega) (0 : Int32) (by show (0 ≤ ((0 : Int32)).toInt ∧ ((0 : Int32)).toInt ≤ 2147483647); decide)) (fun w3 ew3 pw3 => ?_)
  rcases w3 with w3_0 | w3_1
  · refine t_el ?_
    have bw3_0_0 : (0 ≤ w3_0.toInt ∧ w3_0.toInt ≤ 2) := pw3
    exact t_ret (by show (-1) ≤ (w3_0).toInt ∧ (w3_0).toInt ≤ 2; omega)
  · refine t_er ?_
    exact t_ret (by show (-1) ≤ (((-1) : Int32)).toInt ∧ (((-1) : Int32)).toInt ≤ 2; decide)
set_option maxRecDepth 100000 in
set_option maxHeartbeats 1000000 in
theorem tfX9_joinsNow {I0 : gM} (I : gM) (hM : MI false I0 I) : T (fX9_joinsNow I) (fun r => MI false I0 r ∧ (GJ9 r)) := by
  unfold fX9_joinsNow
  refine t_rJ (lo := 0) (hi := 23) hM (by decide : (1 : Int32).toInt = 1) (by omega) (by omega) rfl (fun u1 eu1 bu1 => ?_)
  refine t_bindE (tfX9_joins u1 I hM (by omega)) (fun r2 er2 pr2 => ?_)
  obtain ⟨hr2_0, yr2_0⟩ := (show MI false I0 r2 ∧ (GJ9 r2) from pr2)
  exact t_ret ⟨hr2_0, yr2_0⟩
set_option maxRecDepth 100000 in
set_option maxHeartbeats 1000000 in
theorem tfX9_numberOf {I0 : gM} (v1 : Int32) (v2 : Int32) (I : gM) (hM : MI false I0 I) (av1 : 0 ≤ v1.toInt ∧ v1.toInt ≤ 20735) (av2 : 0 ≤ v2.toInt ∧ v2.toInt ≤ 3) : T (fX9_numberOf v1 v2 I) (fun r => ((-1) ≤ r.toInt ∧ r.toInt ≤ 99)) := by
  unfold fX9_numberOf
  refine t_rI (lo := (-1)) (hi := 99) hM (fun _ _ => rfl) (tA (tM (by decide : (4 : Int32).toInt = 4) rfl (by omega) (by omega)) rfl (by omega) (by omega)) (by omega) (by omega) (fun u1 eu1 bu1 => ?_)
  exact t_ret (by show (-1) ≤ (u1).toInt ∧ (u1).toInt ≤ 99; omega)
set_option maxRecDepth 100000 in
set_option maxHeartbeats 1000000 in
theorem tfX9_isAsked {I0 : gM} (v1 : Int32) (I : gM) (hM : MI false I0 I) : T (fX9_isAsked v1 I) (fun r => (0 ≤ r.toInt ∧ r.toInt ≤ 1) ∧ (r.toInt = 0 ∨ (0 ≤ v1.toInt ∧ v1.toInt ≤ 3))) := by
  unfold fX9_isAsked
  refine t_bindE (tfX9_areTables I hM) (fun r1 er1 pr1 => ?_)
  have br1_0 : (0 ≤ r1.toInt ∧ r1.toInt ≤ 1) := pr1
  refine t_ite (fun c1 => ?_) (fun c1 => ?_)
  · have c1i := (iEQ (a := r1) (b := (0 : Int32)) rfl (by decide : (0 : Int32).toInt = 0)).mp c1
    exact t_ret ⟨(by show 0 ≤ ((0 : Int32)).toInt ∧ ((0 : Int32)).toInt ≤ 1; decide), (by show (0 : Int32).toInt = 0 ∨ (0 ≤ v1.toInt ∧ v1.toInt ≤ 3); have q0 : (0 : Int32).toInt = 0 := (by decide); omega)⟩
  · have c1i := mt (iEQ (a := r1) (b := (0 : Int32)) rfl (by decide : (0 : Int32).toInt = 0)).mpr c1
    refine t_bindE (tfX9_in v1 (0 : Int32) (3 : Int32)) (fun r2 er2 pr2 => ?_)
    obtain ⟨br2_0, xr2_0⟩ := (show (0 ≤ r2.toInt ∧ r2.toInt ≤ 1) ∧ (r2.toInt = 0 ∨ ((0 : Int32).toInt ≤ v1.toInt ∧ v1.toInt ≤ (3 : Int32).toInt)) from pr2)
    have q2 : (0 : Int32).toInt = 0 := by decide
    have q3 : (3 : Int32).toInt = 3 := by decide
    refine t_ite (fun c4 => ?_) (fun c4 => ?_)
    · have c4i := (iEQ (a := r2) (b := (0 : Int32)) rfl (by decide : (0 : Int32).toInt = 0)).mp c4
      exact t_ret ⟨(by show 0 ≤ ((0 : Int32)).toInt ∧ ((0 : Int32)).toInt ≤ 1; decide), (by show (0 : Int32).toInt = 0 ∨ (0 ≤ v1.toInt ∧ v1.toInt ≤ 3); have q0 : (0 : Int32).toInt = 0 := (by decide); omega)⟩
    · have c4i := mt (iEQ (a := r2) (b := (0 : Int32)) rfl (by decide : (0 : Int32).toInt = 0)).mpr c4
      refine t_bindE (tfX9_asked I hM) (fun r3 er3 pr3 => ?_)
      refine t_bindE (tfX9_has r3 v1) (fun r4 er4 pr4 => ?_)
      have br4_0 : (0 ≤ r4.toInt ∧ r4.toInt ≤ 1) := pr4
      refine t_ite (fun c5 => ?_) (fun c5 => ?_)
      · have c5i := (iEQ (a := r4) (b := (0 : Int32)) rfl (by decide : (0 : Int32).toInt = 0)).mp c5
        exact t_ret ⟨(by show 0 ≤ ((0 : Int32)).toInt ∧ ((0 : Int32)).toInt ≤ 1; decide), (by show (0 : Int32).toInt = 0 ∨ (0 ≤ v1.toInt ∧ v1.toInt ≤ 3); have q0 : (0 : Int32).toInt = 0 := (by decide); omega)⟩
      · have c5i := mt (iEQ (a := r4) (b := (0 : Int32)) rfl (by decide : (0 : Int32).toInt = 0)).mpr c5
        exact t_ret ⟨(by show 0 ≤ ((1 : Int32)).toInt ∧ ((1 : Int32)).toInt ≤ 1; decide), (by show (1 : Int32).toInt = 0 ∨ (0 ≤ v1.toInt ∧ v1.toInt ≤ 3); have q0 : (1 : Int32).toInt = 1 := (by decide); omega)⟩
set_option maxRecDepth 100000 in
set_option maxHeartbeats 1000000 in
theorem tfX9_isRow {I0 : gM} (v1 : Int32) (v2 : Int32) (v3 : Int32) (v4 : Int32) (I : gM) (hM : MI false I0 I) (av1 : 0 ≤ v1.toInt ∧ v1.toInt ≤ 3) : T (fX9_isRow v1 v2 v3 v4 I) (fun r => (0 ≤ r.toInt ∧ r.toInt ≤ 1)) := by
  unfold fX9_isRow
  refine t_bindE (tfX9_in v2 (0 : Int32) (99 : Int32)) (fun r1 er1 pr1 => ?_)
  obtain ⟨br1_0, xr1_0⟩ := (show (0 ≤ r1.toInt ∧ r1.toInt ≤ 1) ∧ (r1.toInt = 0 ∨ ((0 : Int32).toInt ≤ v2.toInt ∧ v2.toInt ≤ (99 : Int32).toInt)) from pr1)
  have q1 : (0 : Int32).toInt = 0 := by decide
  have q2 : (99 : Int32).toInt = 99 := by decide
  refine t_ite (fun c3 => ?_) (fun c3 => ?_)
  · have c3i := (iEQ (a := r1) (b := (0 : Int32)) rfl (by decide : (0 : Int32).toInt = 0)).mp c3
    unfold bX9_isRow_46
    unfold bX9_isRow_47
    refine t_ite (fun c4 => ?_) (fun c4 => ?_)
    · have c4i := (iEQ (a := (0 : Int32)) (b := (0 : Int32)) (by decide : (0 : Int32).toInt = 0) (by decide : (0 : Int32).toInt = 0)).mp c4
      exact t_ret (by show 0 ≤ ((0 : Int32)).toInt ∧ ((0 : Int32)).toInt ≤ 1; decide)
    · have c4i := mt (iEQ (a := (0 : Int32)) (b := (0 : Int32)) (by decide : (0 : Int32).toInt = 0) (by decide : (0 : Int32).toInt = 0)).mpr c4
      omega
  · have c3i := mt (iEQ (a := r1) (b := (0 : Int32)) rfl (by decide : (0 : Int32).toInt = 0)).mpr c3
    refine t_rI (lo := 0) (hi := 3) hM (fun _ _ => rfl) rfl (by omega) (by omega) (fun u4 eu4 bu4 => ?_)
    refine t_ite (fun c5 => ?_) (fun c5 => ?_)
    · have c5i := (iLE (a := u4) (b := (1 : Int32)) rfl (by decide : (1 : Int32).toInt = 1)).mp c5
      refine t_ite (fun c6 => ?_) (fun c6 => ?_)
      · have c6i := (iEQ (a := v3) (b := ((-1) : Int32)) rfl (by decide : ((-1) : Int32).toInt = (-1))).mp c6
        unfold bX9_isRow_42
        unfold bX9_isRow_47
        refine t_ite (fun c7 => ?_) (fun c7 => ?_)
        · have c7i := (iEQ (a := (1 : Int32)) (b := (0 : Int32)) (by decide : (1 : Int32).toInt = 1) (by decide : (0 : Int32).toInt = 0)).mp c7
          omega
        · have c7i := mt (iEQ (a := (1 : Int32)) (b := (0 : Int32)) (by decide : (1 : Int32).toInt = 1) (by decide : (0 : Int32).toInt = 0)).mpr c7
          refine t_rI (lo := 0) (hi := 3) hM (fun _ _ => rfl) rfl (by omega) (by omega) (fun u2 eu2 bu2 => ?_)
          refine t_ite (fun c8 => ?_) (fun c8 => ?_)
          · have c8i := (iLE (a := u2) (b := (2 : Int32)) rfl (by decide : (2 : Int32).toInt = 2)).mp c8
            refine t_ite (fun c9 => ?_) (fun c9 => ?_)
            · have c9i := (iEQ (a := v4) (b := ((-1) : Int32)) rfl (by decide : ((-1) : Int32).toInt = (-1))).mp c9
              unfold bX9_isRow_84
              exact t_ret (by show 0 ≤ ((1 : Int32)).toInt ∧ ((1 : Int32)).toInt ≤ 1; decide)
            · have c9i := mt (iEQ (a := v4) (b := ((-1) : Int32)) rfl (by decide : ((-1) : Int32).toInt = (-1))).mpr c9
              exact t_ret (by show 0 ≤ ((0 : Int32)).toInt ∧ ((0 : Int32)).toInt ≤ 1; decide)
          · have c8i := mt (iLE (a := u2) (b := (2 : Int32)) rfl (by decide : (2 : Int32).toInt = 2)).mpr c8
            refine t_bindE (tfX9_in v4 (0 : Int32) (99 : Int32)) (fun r3 er3 pr3 => ?_)
            obtain ⟨br3_0, xr3_0⟩ := (show (0 ≤ r3.toInt ∧ r3.toInt ≤ 1) ∧ (r3.toInt = 0 ∨ ((0 : Int32).toInt ≤ v4.toInt ∧ v4.toInt ≤ (99 : Int32).toInt)) from pr3)
            have q10 : (0 : Int32).toInt = 0 := by decide
            have q11 : (99 : Int32).toInt = 99 := by decide
            refine t_ite (fun c12 => ?_) (fun c12 => ?_)
            · have c12i := (iEQ (a := r3) (b := (0 : Int32)) rfl (by decide : (0 : Int32).toInt = 0)).mp c12
              exact t_ret (by show 0 ≤ ((0 : Int32)).toInt ∧ ((0 : Int32)).toInt ≤ 1; decide)
            · have c12i := mt (iEQ (a := r3) (b := (0 : Int32)) rfl (by decide : (0 : Int32).toInt = 0)).mpr c12
              unfold bX9_isRow_84
              exact t_ret (by show 0 ≤ ((1 : Int32)).toInt ∧ ((1 : Int32)).toInt ≤ 1; decide)
      · have c6i := mt (iEQ (a := v3) (b := ((-1) : Int32)) rfl (by decide : ((-1) : Int32).toInt = (-1))).mpr c6
        unfold bX9_isRow_46
        unfold bX9_isRow_47
        refine t_ite (fun c13 => ?_) (fun c13 => ?_)
        · have c13i := (iEQ (a := (0 : Int32)) (b := (0 : Int32)) (by decide : (0 : Int32).toInt = 0) (by decide : (0 : Int32).toInt = 0)).mp c13
          exact t_ret (by show 0 ≤ ((0 : Int32)).toInt ∧ ((0 : Int32)).toInt ≤ 1; decide)
        · have c13i := mt (iEQ (a := (0 : Int32)) (b := (0 : Int32)) (by decide : (0 : Int32).toInt = 0) (by decide : (0 : Int32).toInt = 0)).mpr c13
          omega
    · have c5i := mt (iLE (a := u4) (b := (1 : Int32)) rfl (by decide : (1 : Int32).toInt = 1)).mpr c5
      refine t_bindE (tfX9_in v3 (0 : Int32) (99 : Int32)) (fun r5 er5 pr5 => ?_)
      obtain ⟨br5_0, xr5_0⟩ := (show (0 ≤ r5.toInt ∧ r5.toInt ≤ 1) ∧ (r5.toInt = 0 ∨ ((0 : Int32).toInt ≤ v3.toInt ∧ v3.toInt ≤ (99 : Int32).toInt)) from pr5)
      have q14 : (0 : Int32).toInt = 0 := by decide
      have q15 : (99 : Int32).toInt = 99 := by decide
      refine t_ite (fun c16 => ?_) (fun c16 => ?_)
      · have c16i := (iEQ (a := r5) (b := (0 : Int32)) rfl (by decide : (0 : Int32).toInt = 0)).mp c16
        unfold bX9_isRow_46
        unfold bX9_isRow_47
        refine t_ite (fun c17 => ?_) (fun c17 => ?_)
        · have c17i := (iEQ (a := (0 : Int32)) (b := (0 : Int32)) (by decide : (0 : Int32).toInt = 0) (by decide : (0 : Int32).toInt = 0)).mp c17
          exact t_ret (by show 0 ≤ ((0 : Int32)).toInt ∧ ((0 : Int32)).toInt ≤ 1; decide)
        · have c17i := mt (iEQ (a := (0 : Int32)) (b := (0 : Int32)) (by decide : (0 : Int32).toInt = 0) (by decide : (0 : Int32).toInt = 0)).mpr c17
          omega
      · have c16i := mt (iEQ (a := r5) (b := (0 : Int32)) rfl (by decide : (0 : Int32).toInt = 0)).mpr c16
        unfold bX9_isRow_42
        unfold bX9_isRow_47
        refine t_ite (fun c18 => ?_) (fun c18 => ?_)
        · have c18i := (iEQ (a := (1 : Int32)) (b := (0 : Int32)) (by decide : (1 : Int32).toInt = 1) (by decide : (0 : Int32).toInt = 0)).mp c18
          omega
        · have c18i := mt (iEQ (a := (1 : Int32)) (b := (0 : Int32)) (by decide : (1 : Int32).toInt = 1) (by decide : (0 : Int32).toInt = 0)).mpr c18
          refine t_rI (lo := 0) (hi := 3) hM (fun _ _ => rfl) rfl (by omega) (by omega) (fun u2 eu2 bu2 => ?_)
          refine t_ite (fun c19 => ?_) (fun c19 => ?_)
          · have c19i := (iLE (a := u2) (b := (2 : Int32)) rfl (by decide : (2 : Int32).toInt = 2)).mp c19
            refine t_ite (fun c20 => ?_) (fun c20 => ?_)
            · have c20i := (iEQ (a := v4) (b := ((-1) : Int32)) rfl (by decide : ((-1) : Int32).toInt = (-1))).mp c20
              unfold bX9_isRow_84
              exact t_ret (by show 0 ≤ ((1 : Int32)).toInt ∧ ((1 : Int32)).toInt ≤ 1; decide)
            · have c20i := mt (iEQ (a := v4) (b := ((-1) : Int32)) rfl (by decide : ((-1) : Int32).toInt = (-1))).mpr c20
              exact t_ret (by show 0 ≤ ((0 : Int32)).toInt ∧ ((0 : Int32)).toInt ≤ 1; decide)
          · have c19i := mt (iLE (a := u2) (b := (2 : Int32)) rfl (by decide : (2 : Int32).toInt = 2)).mpr c19
            refine t_bindE (tfX9_in v4 (0 : Int32) (99 : Int32)) (fun r3 er3 pr3 => ?_)
            obtain ⟨br3_0, xr3_0⟩ := (show (0 ≤ r3.toInt ∧ r3.toInt ≤ 1) ∧ (r3.toInt = 0 ∨ ((0 : Int32).toInt ≤ v4.toInt ∧ v4.toInt ≤ (99 : Int32).toInt)) from pr3)
            have q21 : (0 : Int32).toInt = 0 := by decide
            have q22 : (99 : Int32).toInt = 99 := by decide
            refine t_ite (fun c23 => ?_) (fun c23 => ?_)
            · have c23i := (iEQ (a := r3) (b := (0 : Int32)) rfl (by decide : (0 : Int32).toInt = 0)).mp c23
              exact t_ret (by show 0 ≤ ((0 : Int32)).toInt ∧ ((0 : Int32)).toInt ≤ 1; decide)
            · have c23i := mt (iEQ (a := r3) (b := (0 : Int32)) rfl (by decide : (0 : Int32).toInt = 0)).mpr c23
              unfold bX9_isRow_84
              exact t_ret (by show 0 ≤ ((1 : Int32)).toInt ∧ ((1 : Int32)).toInt ≤ 1; decide)
set_option maxRecDepth 100000 in
set_option maxHeartbeats 1000000 in
theorem tfX9_whyPut {I0 : gM} (v1 : Int32) (v2 : Int32) (v3 : Int32) (v4 : Int32) (I : gM) (hM : MI false I0 I) : T (fX9_whyPut v1 v2 v3 v4 I) (fun r => ((-1) ≤ r.toInt ∧ r.toInt ≤ 3)) := by
  unfold fX9_whyPut
  refine t_bindE (tfX9_isTable v1 I hM) (fun r1 er1 pr1 => ?_)
  obtain ⟨br1_0, xr1_0⟩ := (show (0 ≤ r1.toInt ∧ r1.toInt ≤ 1) ∧ (r1.toInt = 0 ∨ (0 ≤ v1.toInt ∧ v1.toInt < (I 62 17).toInt)) from pr1)
  have q1 := hM.at (k := 62) (j := 17) (lo := 0) (hi := 4) rfl
  refine t_ite (fun c2 => ?_) (fun c2 => ?_)
  · have c2i := (iEQ (a := r1) (b := (0 : Int32)) rfl (by decide : (0 : Int32).toInt = 0)).mp c2
    exact t_ret (by show (-1) ≤ ((0 : Int32)).toInt ∧ ((0 : Int32)).toInt ≤ 3; decide)
  · have c2i := mt (iEQ (a := r1) (b := (0 : Int32)) rfl (by decide : (0 : Int32).toInt = 0)).mpr c2
    refine t_bindE (tfX9_isRow v1 v2 v3 v4 I hM (by omega)) (fun r2 er2 pr2 => ?_)
    have br2_0 : (0 ≤ r2.toInt ∧ r2.toInt ≤ 1) := pr2
    refine t_ite (fun c3 => ?_) (fun c3 => ?_)
    · have c3i := (iEQ (a := r2) (b := (0 : Int32)) rfl (by decide : (0 : Int32).toInt = 0)).mp c3
      exact t_ret (by show (-1) ≤ ((1 : Int32)).toInt ∧ ((1 : Int32)).toInt ≤ 3; decide)
    · have c3i := mt (iEQ (a := r2) (b := (0 : Int32)) rfl (by decide : (0 : Int32).toInt = 0)).mpr c3
      refine t_bindE (tfX9_hasRow v1 v2 v3 v4 I hM (by omega)) (fun r3 er3 pr3 => ?_)
      have br3_0 : (0 ≤ r3.toInt ∧ r3.toInt ≤ 1) := pr3
      refine t_ite (fun c4 => ?_) (fun c4 => ?_)
      · have c4i := (iEQ (a := r3) (b := (0 : Int32)) rfl (by decide : (0 : Int32).toInt = 0)).mp c4
        refine t_bindE (tfX9_many v1 I hM (by omega)) (fun r4 er4 pr4 => ?_)
        obtain ⟨br4_0, xr4_0⟩ := (show (0 ≤ r4.toInt ∧ r4.toInt ≤ 12) ∧ (r4.toInt = (I 70 (2 + v1.toInt).toNat).toInt) from pr4)
        refine t_ite (fun c5 => ?_) (fun c5 => ?_)
        · have c5i := (iEQ (a := r4) (b := (12 : Int32)) rfl (by decide : (12 : Int32).toInt = 12)).mp c5
          exact t_ret (by show (-1) ≤ ((3 : Int32)).toInt ∧ ((3 : Int32)).toInt ≤ 3; decide)
        · have c5i := mt (iEQ (a := r4) (b := (12 : Int32)) rfl (by decide : (12 : Int32).toInt = 12)).mpr c5
          exact t_ret (by show (-1) ≤ (((-1) : Int32)).toInt ∧ (((-1) : Int32)).toInt ≤ 3; decide)
      · have c4i := mt (iEQ (a := r3) (b := (0 : Int32)) rfl (by decide : (0 : Int32).toInt = 0)).mpr c4
        exact t_ret (by show (-1) ≤ ((2 : Int32)).toInt ∧ ((2 : Int32)).toInt ≤ 3; decide)
set_option maxRecDepth 100000 in
set_option maxHeartbeats 1000000 in
theorem tfX9_whyTake {I0 : gM} (v1 : Int32) (v2 : Int32) (v3 : Int32) (v4 : Int32) (I : gM) (hM : MI false I0 I) : T (fX9_whyTake v1 v2 v3 v4 I) (fun r => ((-1) ≤ r.toInt ∧ r.toInt ≤ 2)) := by
  unfold fX9_whyTake
  refine t_bindE (tfX9_isTable v1 I hM) (fun r1 er1 pr1 => ?_)
  obtain ⟨br1_0, xr1_0⟩ := (show (0 ≤ r1.toInt ∧ r1.toInt ≤ 1) ∧ (r1.toInt = 0 ∨ (0 ≤ v1.toInt ∧ v1.toInt < (I 62 17).toInt)) from pr1)
  have q1 := hM.at (k := 62) (j := 17) (lo := 0) (hi := 4) rfl
  refine t_ite (fun c2 => ?_) (fun c2 => ?_)
  · have c2i := (iEQ (a := r1) (b := (0 : Int32)) rfl (by decide : (0 : Int32).toInt = 0)).mp c2
    exact t_ret (by show (-1) ≤ ((0 : Int32)).toInt ∧ ((0 : Int32)).toInt ≤ 2; decide)
  · have c2i := mt (iEQ (a := r1) (b := (0 : Int32)) rfl (by decide : (0 : Int32).toInt = 0)).mpr c2
    refine t_bindE (tfX9_isRow v1 v2 v3 v4 I hM (by omega)) (fun r2 er2 pr2 => ?_)
    have br2_0 : (0 ≤ r2.toInt ∧ r2.toInt ≤ 1) := pr2
    refine t_ite (fun c3 => ?_) (fun c3 => ?_)
    · have c3i := (iEQ (a := r2) (b := (0 : Int32)) rfl (by decide : (0 : Int32).toInt = 0)).mp c3
      exact t_ret (by show (-1) ≤ ((1 : Int32)).toInt ∧ ((1 : Int32)).toInt ≤ 2; decide)
    · have c3i := mt (iEQ (a := r2) (b := (0 : Int32)) rfl (by decide : (0 : Int32).toInt = 0)).mpr c3
      refine t_bindE (tfX9_hasRow v1 v2 v3 v4 I hM (by omega)) (fun r3 er3 pr3 => ?_)
      have br3_0 : (0 ≤ r3.toInt ∧ r3.toInt ≤ 1) := pr3
      refine t_ite (fun c4 => ?_) (fun c4 => ?_)
      · have c4i := (iEQ (a := r3) (b := (0 : Int32)) rfl (by decide : (0 : Int32).toInt = 0)).mp c4
        exact t_ret (by show (-1) ≤ ((2 : Int32)).toInt ∧ ((2 : Int32)).toInt ≤ 2; decide)
      · have c4i := mt (iEQ (a := r3) (b := (0 : Int32)) rfl (by decide : (0 : Int32).toInt = 0)).mpr c4
        exact t_ret (by show (-1) ≤ (((-1) : Int32)).toInt ∧ (((-1) : Int32)).toInt ≤ 2; decide)
set_option maxRecDepth 100000 in
set_option maxHeartbeats 1000000 in
theorem tfX9_whyNot {I0 : gM} (v1 : Int32) (v2 : Int32) (v3 : Int32) (v4 : Int32) (v5 : Int32) (I : gM) (hM : MI false I0 I) : T (fX9_whyNot v1 v2 v3 v4 v5 I) (fun r => ((-1) ≤ r.toInt ∧ r.toInt ≤ 3)) := by
  unfold fX9_whyNot
  refine t_ite (fun c1 => ?_) (fun c1 => ?_)
  · have c1i := (iEQ (a := v1) (b := (0 : Int32)) rfl (by decide : (0 : Int32).toInt = 0)).mp c1
    refine t_bindE (tfX9_whyPut v2 v3 v4 v5 I hM) (fun r1 er1 pr1 => ?_)
    have br1_0 : ((-1) ≤ r1.toInt ∧ r1.toInt ≤ 3) := pr1
    exact t_ret (by show (-1) ≤ (r1).toInt ∧ (r1).toInt ≤ 3; omega)
  · have c1i := mt (iEQ (a := v1) (b := (0 : Int32)) rfl (by decide : (0 : Int32).toInt = 0)).mpr c1
    refine t_ite (fun c2 => ?_) (fun c2 => ?_)
    · have c2i := (iEQ (a := v1) (b := (1 : Int32)) rfl (by decide : (1 : Int32).toInt = 1)).mp c2
      refine t_bindE (tfX9_whyTake v2 v3 v4 v5 I hM) (fun r2 er2 pr2 => ?_)
      have br2_0 : ((-1) ≤ r2.toInt ∧ r2.toInt ≤ 2) := pr2
      exact t_ret (by show (-1) ≤ (r2).toInt ∧ (r2).toInt ≤ 3; omega)
    · have c2i := mt (iEQ (a := v1) (b := (1 : Int32)) rfl (by decide : (1 : Int32).toInt = 1)).mpr c2
      refine t_ite (fun c3 => ?_) (fun c3 => ?_)
      · have c3i := (iEQ (a := v1) (b := (2 : Int32)) rfl (by decide : (2 : Int32).toInt = 2)).mp c3
        refine t_bindE (tfX9_isTable v2 I hM) (fun r3 er3 pr3 => ?_)
        obtain ⟨br3_0, xr3_0⟩ := (show (0 ≤ r3.toInt ∧ r3.toInt ≤ 1) ∧ (r3.toInt = 0 ∨ (0 ≤ v2.toInt ∧ v2.toInt < (I 62 17).toInt)) from pr3)
        have q4 := hM.at (k := 62) (j := 17) (lo := 0) (hi := 4) rfl
        refine t_ite (fun c5 => ?_) (fun c5 => ?_)
        · have c5i := (iEQ (a := r3) (b := (0 : Int32)) rfl (by decide : (0 : Int32).toInt = 0)).mp c5
          exact t_ret (by show (-1) ≤ ((0 : Int32)).toInt ∧ ((0 : Int32)).toInt ≤ 3; decide)
        · have c5i := mt (iEQ (a := r3) (b := (0 : Int32)) rfl (by decide : (0 : Int32).toInt = 0)).mpr c5
          refine t_rJ (lo := (-2147483648)) (hi := 2147483647) hM (by decide : (0 : Int32).toInt = 0) (by omega) (by omega) rfl (fun u4 eu4 bu4 => ?_)
          refine t_ite (fun c6 => ?_) (fun c6 => ?_)
          · have c6i := (iEQ (a := u4) (b := (1 : Int32) <<< (v2 &&& 31)) rfl rfl).mp c6
            exact t_ret (by show (-1) ≤ ((2 : Int32)).toInt ∧ ((2 : Int32)).toInt ≤ 3; decide)
          · have c6i := mt (iEQ (a := u4) (b := (1 : Int32) <<< (v2 &&& 31)) rfl rfl).mpr c6
            exact t_ret (by show (-1) ≤ (((-1) : Int32)).toInt ∧ (((-1) : Int32)).toInt ≤ 3; decide)
      · have c3i := mt (iEQ (a := v1) (b := (2 : Int32)) rfl (by decide : (2 : Int32).toInt = 2)).mpr c3
        refine t_bindE (tfX9_areTables I hM) (fun r5 er5 pr5 => ?_)
        have br5_0 : (0 ≤ r5.toInt ∧ r5.toInt ≤ 1) := pr5
        refine t_ite (fun c7 => ?_) (fun c7 => ?_)
        · have c7i := (iEQ (a := r5) (b := (0 : Int32)) rfl (by decide : (0 : Int32).toInt = 0)).mp c7
          exact t_ret (by show (-1) ≤ ((0 : Int32)).toInt ∧ ((0 : Int32)).toInt ≤ 3; decide)
        · have c7i := mt (iEQ (a := r5) (b := (0 : Int32)) rfl (by decide : (0 : Int32).toInt = 0)).mpr c7
          refine t_bindE (tfX9_in v2 (0 : Int32) (23 : Int32)) (fun r6 er6 pr6 => ?_)
          obtain ⟨br6_0, xr6_0⟩ := (show (0 ≤ r6.toInt ∧ r6.toInt ≤ 1) ∧ (r6.toInt = 0 ∨ ((0 : Int32).toInt ≤ v2.toInt ∧ v2.toInt ≤ (23 : Int32).toInt)) from pr6)
          have q8 : (0 : Int32).toInt = 0 := by decide
          have q9 : (23 : Int32).toInt = 23 := by decide
          refine t_ite (fun c10 => ?_) (fun c10 => ?_)
          · have c10i := (iEQ (a := r6) (b := (0 : Int32)) rfl (by decide : (0 : Int32).toInt = 0)).mp c10
            exact t_ret (by show (-1) ≤ ((1 : Int32)).toInt ∧ ((1 : Int32)).toInt ≤ 3; decide)
          · have c10i := mt (iEQ (a := r6) (b := (0 : Int32)) rfl (by decide : (0 : Int32).toInt = 0)).mpr c10
            refine t_rJ (lo := 0) (hi := 23) hM (by decide : (1 : Int32).toInt = 1) (by omega) (by omega) rfl (fun u7 eu7 bu7 => ?_)
            refine t_ite (fun c11 => ?_) (fun c11 => ?_)
            · have c11i := (iEQ (a := u7) (b := v2) rfl rfl).mp c11
              exact t_ret (by show (-1) ≤ ((2 : Int32)).toInt ∧ ((2 : Int32)).toInt ≤ 3; decide)
            · have c11i := mt (iEQ (a := u7) (b := v2) rfl rfl).mpr c11
              exact t_ret (by show (-1) ≤ (((-1) : Int32)).toInt ∧ (((-1) : Int32)).toInt ≤ 3; decide)
set_option maxRecDepth 100000 in
set_option maxHeartbeats 1000000 in
theorem tfX9_rowsNow {I0 : gM} (I : gM) (hM : MI false I0 I) : T (fX9_rowsNow I) (fun r => (0 ≤ r.1.toInt ∧ r.1.toInt ≤ 20736) ∧ MI false I0 r.2) := by
  unfold fX9_rowsNow
  refine t_bindE (tfX9_joinsNow I hM) (fun r1 er1 pr1 => ?_)
  obtain ⟨hr1_0, yr1_0⟩ := (show MI false I0 r1 ∧ (GJ9 r1) from pr1)
  have q1 := hr1_0.at (k := 62) (j := 26) (lo := 0) (hi := 20736) rfl
  exact t_ret ⟨(by show 0 ≤ (r1 62 26).toInt ∧ (r1 62 26).toInt ≤ 20736; omega), hr1_0⟩
set_option maxRecDepth 100000 in
set_option maxHeartbeats 1000000 in
theorem tfX9_status {I0 : gM} (v1 : Int32) (I : gM) (hM : MI false I0 I) : T (fX9_status v1 I) (fun r => True) := by
  unfold fX9_status
  refine t_bindE (tfX9_in v1 (0 : Int32) (3 : Int32)) (fun r1 er1 pr1 => ?_)
  obtain ⟨br1_0, xr1_0⟩ := (show (0 ≤ r1.toInt ∧ r1.toInt ≤ 1) ∧ (r1.toInt = 0 ∨ ((0 : Int32).toInt ≤ v1.toInt ∧ v1.toInt ≤ (3 : Int32).toInt)) from pr1)
  have q1 : (0 : Int32).toInt = 0 := by decide
  have q2 : (3 : Int32).toInt = 3 := by decide
  refine t_ite (fun c3 => ?_) (fun c3 => ?_)
  · have c3i := (iEQ (a := r1) (b := (0 : Int32)) rfl (by decide : (0 : Int32).toInt = 0)).mp c3
    exact t_ret trivial
  · have c3i := mt (iEQ (a := r1) (b := (0 : Int32)) rfl (by decide : (0 : Int32).toInt = 0)).mpr c3
    refine t_rI (lo := (-2147483648)) (hi := 2147483647) hM (fun _ _ => rfl) rfl (by omega) (by omega) (fun u2 eu2 bu2 => ?_)
    exact t_ret trivial
set_option maxRecDepth 100000 in
set_option maxHeartbeats 1000000 in
theorem tlX9_rowsOfAll_4 {I0 : gM} (I : gM) (hM : MI false I0 I) (s : (Int32 × Int32)) (hP : (0 ≤ (s.2).toInt ∧ (s.2).toInt ≤ 2147483647)) : T (lX9_rowsOfAll_4 I s) (fun r : Int32 => True) := by
  unfold lX9_rowsOfAll_4
  refine t_it (P := fun s : (Int32 × Int32) => (0 ≤ (s.2).toInt ∧ (s.2).toInt ≤ 2147483647)) (μ := fun s : (Int32 × Int32) => (2147483648 - s.2.toInt).toNat) (fun s p => ?_) hP
  have b1 : (0 ≤ (s.2).toInt ∧ (s.2).toInt ≤ 2147483647) := p
  have q1 := hM.at (k := 62) (j := 17) (lo := 0) (hi := 4) rfl
  refine t_ite (fun c2 => ?_) (fun c2 => ?_)
  · have c2i := (iLE (a := I 62 17) (b := s.2) rfl rfl).mp c2
    exact t_ret (show True from trivial)
  · have c2i := mt (iLE (a := I 62 17) (b := s.2) rfl rfl).mpr c2
    refine t_bindE (tfX9_many s.2 I hM (by omega)) (fun r1 er1 pr1 => ?_)
    obtain ⟨br1_0, xr1_0⟩ := (show (0 ≤ r1.toInt ∧ r1.toInt ≤ 12) ∧ (r1.toInt = (I 70 (2 + s.2.toInt).toNat).toInt) from pr1)
    have m1 := ((tA rfl (by decide : (1 : Int32).toInt = 1) (by omega) (by omega)) : (s.2 + 1).toInt = (s.2.toInt + 1))
    have mm : (2147483648 - (s.2 + 1).toInt).toNat < (2147483648 - s.2.toInt).toNat := by omega
    have pp : (0 ≤ (s.2 + 1).toInt ∧ (s.2 + 1).toInt ≤ 2147483647) := (by show (0 ≤ (s.2 + 1).toInt ∧ (s.2 + 1).toInt ≤ 2147483647); have q := ((tA rfl (by decide : (1 : Int32).toInt = 1) (by omega) (by omega)) : (s.2 + 1).toInt = (s.2.toInt + 1)); omega)
    exact t_ret ⟨pp, mm⟩
set_option maxRecDepth 100000 in
set_option maxHeartbeats 1000000 in
theorem tfX9_rowsOfAll {I0 : gM} (I : gM) (hM : MI false I0 I) : T (fX9_rowsOfAll I) (fun r => True) := by
  unfold fX9_rowsOfAll
  refine t_bindE (tlX9_rowsOfAll_4 I hM ((0 : Int32), (0 : Int32)) (by show (0 ≤ ((0 : Int32)).toInt ∧ ((0 : Int32)).toInt ≤ 2147483647); decide)) (fun w2 ew2 pw2 => ?_)
  exact t_ret trivial
set_option maxRecDepth 100000 in
set_option maxHeartbeats 1000000 in
theorem tfX9_rule {I0 : gM} (v1 : Int32) (I : gM) (hM : MI false I0 I) : T (fX9_rule v1 I) (fun r => True) := by
  unfold fX9_rule
  refine t_bindE (tfX9_areTables I hM) (fun r1 er1 pr1 => ?_)
  have br1_0 : (0 ≤ r1.toInt ∧ r1.toInt ≤ 1) := pr1
  refine t_ite (fun c1 => ?_) (fun c1 => ?_)
  · have c1i := (iEQ (a := r1) (b := (0 : Int32)) rfl (by decide : (0 : Int32).toInt = 0)).mp c1
    exact t_ret trivial
  · have c1i := mt (iEQ (a := r1) (b := (0 : Int32)) rfl (by decide : (0 : Int32).toInt = 0)).mpr c1
    refine t_bindE (tfX9_in v1 (0 : Int32) (4 : Int32)) (fun r2 er2 pr2 => ?_)
    obtain ⟨br2_0, xr2_0⟩ := (show (0 ≤ r2.toInt ∧ r2.toInt ≤ 1) ∧ (r2.toInt = 0 ∨ ((0 : Int32).toInt ≤ v1.toInt ∧ v1.toInt ≤ (4 : Int32).toInt)) from pr2)
    have q2 : (0 : Int32).toInt = 0 := by decide
    have q3 : (4 : Int32).toInt = 4 := by decide
    refine t_ite (fun c4 => ?_) (fun c4 => ?_)
    · have c4i := (iEQ (a := r2) (b := (0 : Int32)) rfl (by decide : (0 : Int32).toInt = 0)).mp c4
      exact t_ret trivial
    · have c4i := mt (iEQ (a := r2) (b := (0 : Int32)) rfl (by decide : (0 : Int32).toInt = 0)).mpr c4
      refine t_ite (fun c5 => ?_) (fun c5 => ?_)
      · have c5i := (iEQ (a := v1) (b := (0 : Int32)) rfl (by decide : (0 : Int32).toInt = 0)).mp c5
        exact t_ret trivial
      · have c5i := mt (iEQ (a := v1) (b := (0 : Int32)) rfl (by decide : (0 : Int32).toInt = 0)).mpr c5
        refine t_ite (fun c6 => ?_) (fun c6 => ?_)
        · have c6i := (iEQ (a := v1) (b := (1 : Int32)) rfl (by decide : (1 : Int32).toInt = 1)).mp c6
          refine t_rJ (lo := (-2147483648)) (hi := 2147483647) hM (by decide : (0 : Int32).toInt = 0) (by omega) (by omega) rfl (fun u3 eu3 bu3 => ?_)
          exact t_ret trivial
        · have c6i := mt (iEQ (a := v1) (b := (1 : Int32)) rfl (by decide : (1 : Int32).toInt = 1)).mpr c6
          refine t_ite (fun c7 => ?_) (fun c7 => ?_)
          · have c7i := (iEQ (a := v1) (b := (2 : Int32)) rfl (by decide : (2 : Int32).toInt = 2)).mp c7
            refine t_rJ (lo := 0) (hi := 23) hM (by decide : (1 : Int32).toInt = 1) (by omega) (by omega) rfl (fun u4 eu4 bu4 => ?_)
            exact t_ret trivial
          · have c7i := mt (iEQ (a := v1) (b := (2 : Int32)) rfl (by decide : (2 : Int32).toInt = 2)).mpr c7
            refine t_ite (fun c8 => ?_) (fun c8 => ?_)
            · have c8i := (iEQ (a := v1) (b := (3 : Int32)) rfl (by decide : (3 : Int32).toInt = 3)).mp c8
              refine t_bindE (tfX9_asked I hM) (fun r5 er5 pr5 => ?_)
              exact t_ret trivial
            · have c8i := mt (iEQ (a := v1) (b := (3 : Int32)) rfl (by decide : (3 : Int32).toInt = 3)).mpr c8
              refine t_bindE (tfX9_rowsOfAll I hM) (fun r6 er6 pr6 => ?_)
              exact t_ret trivial
set_option maxRecDepth 100000 in
set_option maxHeartbeats 1000000 in
theorem tfX9_table {I0 : gM} (v1 : Int32) (v2 : Int32) (I : gM) (hM : MI false I0 I) : T (fX9_table v1 v2 I) (fun r => MI false I0 r.2) := by
  unfold fX9_table
  refine t_bindE (tfX9_isTable v1 I hM) (fun r1 er1 pr1 => ?_)
  obtain ⟨br1_0, xr1_0⟩ := (show (0 ≤ r1.toInt ∧ r1.toInt ≤ 1) ∧ (r1.toInt = 0 ∨ (0 ≤ v1.toInt ∧ v1.toInt < (I 62 17).toInt)) from pr1)
  have q1 := hM.at (k := 62) (j := 17) (lo := 0) (hi := 4) rfl
  refine t_ite (fun c2 => ?_) (fun c2 => ?_)
  · have c2i := (iEQ (a := r1) (b := (0 : Int32)) rfl (by decide : (0 : Int32).toInt = 0)).mp c2
    unfold bX9_table_22
    unfold bX9_table_23
    refine t_pU (lo := (-2147483648)) (hi := 2147483647) hM rfl rfl (tTop _) (fun I2 eI2 hI2 => ?_)
    have q3 : (I2 62 0).toInt = 1 := by rw [eI2, g_up_self]; exact (by decide : (1 : Int32).toInt = 1)
    refine t_ite (fun c4 => ?_) (fun c4 => ?_)
    · have c4i := (iEQ (a := I2 62 0) (b := (1 : Int32)) rfl (by decide : (1 : Int32).toInt = 1)).mp c4
      exact t_ret hI2
    · have c4i := mt (iEQ (a := I2 62 0) (b := (1 : Int32)) rfl (by decide : (1 : Int32).toInt = 1)).mpr c4
      omega
  · have c2i := mt (iEQ (a := r1) (b := (0 : Int32)) rfl (by decide : (0 : Int32).toInt = 0)).mpr c2
    refine t_bindE (tfX9_in v2 (0 : Int32) (3 : Int32)) (fun r7 er7 pr7 => ?_)
    obtain ⟨br7_0, xr7_0⟩ := (show (0 ≤ r7.toInt ∧ r7.toInt ≤ 1) ∧ (r7.toInt = 0 ∨ ((0 : Int32).toInt ≤ v2.toInt ∧ v2.toInt ≤ (3 : Int32).toInt)) from pr7)
    have q5 : (0 : Int32).toInt = 0 := by decide
    have q6 : (3 : Int32).toInt = 3 := by decide
    refine t_ite (fun c7 => ?_) (fun c7 => ?_)
    · have c7i := (iEQ (a := r7) (b := (0 : Int32)) rfl (by decide : (0 : Int32).toInt = 0)).mp c7
      unfold bX9_table_22
      unfold bX9_table_23
      refine t_pU (lo := (-2147483648)) (hi := 2147483647) hM rfl rfl (tTop _) (fun I2 eI2 hI2 => ?_)
      have q8 : (I2 62 0).toInt = 1 := by rw [eI2, g_up_self]; exact (by decide : (1 : Int32).toInt = 1)
      refine t_ite (fun c9 => ?_) (fun c9 => ?_)
      · have c9i := (iEQ (a := I2 62 0) (b := (1 : Int32)) rfl (by decide : (1 : Int32).toInt = 1)).mp c9
        exact t_ret hI2
      · have c9i := mt (iEQ (a := I2 62 0) (b := (1 : Int32)) rfl (by decide : (1 : Int32).toInt = 1)).mpr c9
        omega
    · have c7i := mt (iEQ (a := r7) (b := (0 : Int32)) rfl (by decide : (0 : Int32).toInt = 0)).mpr c7
      unfold bX9_table_23
      refine t_pU (lo := (-2147483648)) (hi := 2147483647) hM rfl rfl (tTop _) (fun I2 eI2 hI2 => ?_)
      have q10 : (I2 62 0).toInt = 0 := by rw [eI2, g_up_self]; exact (by decide : (0 : Int32).toInt = 0)
      refine t_ite (fun c11 => ?_) (fun c11 => ?_)
      · have c11i := (iEQ (a := I2 62 0) (b := (1 : Int32)) rfl (by decide : (1 : Int32).toInt = 1)).mp c11
        omega
      · have c11i := mt (iEQ (a := I2 62 0) (b := (1 : Int32)) rfl (by decide : (1 : Int32).toInt = 1)).mpr c11
        refine t_ite (fun c12 => ?_) (fun c12 => ?_)
        · have c12i := (iEQ (a := v2) (b := (0 : Int32)) rfl (by decide : (0 : Int32).toInt = 0)).mp c12
          refine t_rI (lo := 0) (hi := 3) hI2 (fun _ _ => rfl) rfl (by omega) (by omega) (fun u3 eu3 bu3 => ?_)
          exact t_ret hI2
        · have c12i := mt (iEQ (a := v2) (b := (0 : Int32)) rfl (by decide : (0 : Int32).toInt = 0)).mpr c12
          refine t_ite (fun c13 => ?_) (fun c13 => ?_)
          · have c13i := (iEQ (a := v2) (b := (1 : Int32)) rfl (by decide : (1 : Int32).toInt = 1)).mp c13
            refine t_bindE (tfX9_lettersOf v1 I2 hI2 (by omega)) (fun r4 er4 pr4 => ?_)
            exact t_ret hI2
          · have c13i := mt (iEQ (a := v2) (b := (1 : Int32)) rfl (by decide : (1 : Int32).toInt = 1)).mpr c13
            refine t_ite (fun c14 => ?_) (fun c14 => ?_)
            · have c14i := (iEQ (a := v2) (b := (2 : Int32)) rfl (by decide : (2 : Int32).toInt = 2)).mp c14
              refine t_bindE (tfX9_many v1 I2 hI2 (by omega)) (fun r5 er5 pr5 => ?_)
              obtain ⟨br5_0, xr5_0⟩ := (show (0 ≤ r5.toInt ∧ r5.toInt ≤ 12) ∧ (r5.toInt = (I2 70 (2 + v1.toInt).toNat).toInt) from pr5)
              exact t_ret hI2
            · have c14i := mt (iEQ (a := v2) (b := (2 : Int32)) rfl (by decide : (2 : Int32).toInt = 2)).mpr c14
              refine t_bindE (tfX9_isUsed v1 I2 hI2) (fun r6 er6 pr6 => ?_)
              have br6_0 : (0 ≤ r6.toInt ∧ r6.toInt ≤ 1) := pr6
              refine t_ite (fun c15 => ?_) (fun c15 => ?_)
              · have c15i := (iEQ (a := r6) (b := (0 : Int32)) rfl (by decide : (0 : Int32).toInt = 0)).mp c15
                exact t_ret hI2
              · have c15i := mt (iEQ (a := r6) (b := (0 : Int32)) rfl (by decide : (0 : Int32).toInt = 0)).mpr c15
                exact t_ret hI2
set_option maxRecDepth 100000 in
set_option maxHeartbeats 1000000 in
theorem tfX9_cell {I0 : gM} (v1 : Int32) (v2 : Int32) (v3 : Int32) (I : gM) (hM : MI false I0 I) : T (fX9_cell v1 v2 v3 I) (fun r => ((-1) ≤ r.toInt ∧ r.toInt ≤ 99)) := by
  unfold fX9_cell
  refine t_bindE (tfX9_isTable v1 I hM) (fun r1 er1 pr1 => ?_)
  obtain ⟨br1_0, xr1_0⟩ := (show (0 ≤ r1.toInt ∧ r1.toInt ≤ 1) ∧ (r1.toInt = 0 ∨ (0 ≤ v1.toInt ∧ v1.toInt < (I 62 17).toInt)) from pr1)
  have q1 := hM.at (k := 62) (j := 17) (lo := 0) (hi := 4) rfl
  refine t_ite (fun c2 => ?_) (fun c2 => ?_)
  · have c2i := (iEQ (a := r1) (b := (0 : Int32)) rfl (by decide : (0 : Int32).toInt = 0)).mp c2
    exact t_ret (by show (-1) ≤ (((-1) : Int32)).toInt ∧ (((-1) : Int32)).toInt ≤ 99; decide)
  · have c2i := mt (iEQ (a := r1) (b := (0 : Int32)) rfl (by decide : (0 : Int32).toInt = 0)).mpr c2
    refine t_bindE (tfX9_many v1 I hM (by omega)) (fun r2 er2 pr2 => ?_)
    obtain ⟨br2_0, xr2_0⟩ := (show (0 ≤ r2.toInt ∧ r2.toInt ≤ 12) ∧ (r2.toInt = (I 70 (2 + v1.toInt).toNat).toInt) from pr2)
    refine t_bindE (tfX9_in v2 (0 : Int32) (r2 - 1)) (fun r3 er3 pr3 => ?_)
    obtain ⟨br3_0, xr3_0⟩ := (show (0 ≤ r3.toInt ∧ r3.toInt ≤ 1) ∧ (r3.toInt = 0 ∨ ((0 : Int32).toInt ≤ v2.toInt ∧ v2.toInt ≤ (r2 - 1).toInt)) from pr3)
    have q3 : (0 : Int32).toInt = 0 := by decide
    have q4 := ((tS rfl (by decide : (1 : Int32).toInt = 1) (by omega) (by omega)) : (r2 - 1).toInt = (r2.toInt - 1))
    refine t_ite (fun c5 => ?_) (fun c5 => ?_)
    · have c5i := (iEQ (a := r3) (b := (0 : Int32)) rfl (by decide : (0 : Int32).toInt = 0)).mp c5
      exact t_ret (by show (-1) ≤ (((-1) : Int32)).toInt ∧ (((-1) : Int32)).toInt ≤ 99; decide)
    · have c5i := mt (iEQ (a := r3) (b := (0 : Int32)) rfl (by decide : (0 : Int32).toInt = 0)).mpr c5
      refine t_rI (lo := 0) (hi := 3) hM (fun _ _ => rfl) rfl (by omega) (by omega) (fun u4 eu4 bu4 => ?_)
      refine t_bindE (tfX9_in v3 (0 : Int32) (u4 - 1)) (fun r5 er5 pr5 => ?_)
      obtain ⟨br5_0, xr5_0⟩ := (show (0 ≤ r5.toInt ∧ r5.toInt ≤ 1) ∧ (r5.toInt = 0 ∨ ((0 : Int32).toInt ≤ v3.toInt ∧ v3.toInt ≤ (u4 - 1).toInt)) from pr5)
      have q6 : (0 : Int32).toInt = 0 := by decide
      have q7 := ((tS rfl (by decide : (1 : Int32).toInt = 1) (by omega) (by omega)) : (u4 - 1).toInt = (u4.toInt - 1))
      refine t_ite (fun c8 => ?_) (fun c8 => ?_)
      · have c8i := (iEQ (a := r5) (b := (0 : Int32)) rfl (by decide : (0 : Int32).toInt = 0)).mp c8
        exact t_ret (by show (-1) ≤ (((-1) : Int32)).toInt ∧ (((-1) : Int32)).toInt ≤ 99; decide)
      · have c8i := mt (iEQ (a := r5) (b := (0 : Int32)) rfl (by decide : (0 : Int32).toInt = 0)).mpr c8
        refine t_bindE (tfX9_rowAt v1 v2 (by omega) (by omega)) (fun r6 er6 pr6 => ?_)
        obtain ⟨br6_0, xr6_0⟩ := (show (3 ≤ r6.toInt ∧ r6.toInt ≤ 150) ∧ (r6.toInt = 6 + 3 * (12 * v1.toInt + v2.toInt)) from pr6)
        refine t_rJ (lo := (-1)) (hi := 99) hM (tA rfl rfl (by omega) (by omega)) (by omega) (by omega) (rgRow (by omega) (by omega)) (fun u7 eu7 bu7 => ?_)
        exact t_ret (by show (-1) ≤ (u7).toInt ∧ (u7).toInt ≤ 99; omega)
set_option maxRecDepth 100000 in
set_option maxHeartbeats 1000000 in
theorem tfX9_rows {I0 : gM} (I : gM) (hM : MI false I0 I) : T (fX9_rows I) (fun r => ((-1) ≤ r.1.toInt ∧ r.1.toInt ≤ 20736) ∧ MI false I0 r.2) := by
  unfold fX9_rows
  refine t_bindE (tfX9_areTables I hM) (fun r1 er1 pr1 => ?_)
  have br1_0 : (0 ≤ r1.toInt ∧ r1.toInt ≤ 1) := pr1
  refine t_ite (fun c1 => ?_) (fun c1 => ?_)
  · have c1i := (iEQ (a := r1) (b := (0 : Int32)) rfl (by decide : (0 : Int32).toInt = 0)).mp c1
    exact t_ret ⟨(by show (-1) ≤ (((-1) : Int32)).toInt ∧ (((-1) : Int32)).toInt ≤ 20736; decide), hM⟩
  · have c1i := mt (iEQ (a := r1) (b := (0 : Int32)) rfl (by decide : (0 : Int32).toInt = 0)).mpr c1
    refine t_bindE (tfX9_rowsNow I hM) (fun r2 er2 pr2 => ?_)
    obtain ⟨br2_0, hr2_1⟩ := (show (0 ≤ r2.1.toInt ∧ r2.1.toInt ≤ 20736) ∧ MI false I0 r2.2 from pr2)
    exact t_ret ⟨(by show (-1) ≤ (r2.1).toInt ∧ (r2.1).toInt ≤ 20736; omega), hr2_1⟩
set_option maxRecDepth 100000 in
set_option maxHeartbeats 1000000 in
theorem tfX9_row {I0 : gM} (v1 : Int32) (v2 : Int32) (I : gM) (hM : MI false I0 I) : T (fX9_row v1 v2 I) (fun r => ((-1) ≤ r.1.toInt ∧ r.1.toInt ≤ 99) ∧ MI false I0 r.2) := by
  unfold fX9_row
  refine t_bindE (tfX9_isAsked v2 I hM) (fun r1 er1 pr1 => ?_)
  obtain ⟨br1_0, xr1_0⟩ := (show (0 ≤ r1.toInt ∧ r1.toInt ≤ 1) ∧ (r1.toInt = 0 ∨ (0 ≤ v2.toInt ∧ v2.toInt ≤ 3)) from pr1)
  refine t_ite (fun c1 => ?_) (fun c1 => ?_)
  · have c1i := (iEQ (a := r1) (b := (0 : Int32)) rfl (by decide : (0 : Int32).toInt = 0)).mp c1
    exact t_ret ⟨(by show (-1) ≤ (((-1) : Int32)).toInt ∧ (((-1) : Int32)).toInt ≤ 99; decide), hM⟩
  · have c1i := mt (iEQ (a := r1) (b := (0 : Int32)) rfl (by decide : (0 : Int32).toInt = 0)).mpr c1
    refine t_ite (fun c2 => ?_) (fun c2 => ?_)
    · have c2i := (iLT (a := v1) (b := (0 : Int32)) rfl (by decide : (0 : Int32).toInt = 0)).mp c2
      exact t_ret ⟨(by show (-1) ≤ (((-1) : Int32)).toInt ∧ (((-1) : Int32)).toInt ≤ 99; decide), hM⟩
    · have c2i := mt (iLT (a := v1) (b := (0 : Int32)) rfl (by decide : (0 : Int32).toInt = 0)).mpr c2
      refine t_bindE (tfX9_rowsNow I hM) (fun r2 er2 pr2 => ?_)
      obtain ⟨br2_0, hr2_1⟩ := (show (0 ≤ r2.1.toInt ∧ r2.1.toInt ≤ 20736) ∧ MI false I0 r2.2 from pr2)
      refine t_ite (fun c3 => ?_) (fun c3 => ?_)
      · have c3i := (iLE (a := r2.1) (b := v1) rfl rfl).mp c3
        exact t_ret ⟨(by show (-1) ≤ (((-1) : Int32)).toInt ∧ (((-1) : Int32)).toInt ≤ 99; decide), hr2_1⟩
      · have c3i := mt (iLE (a := r2.1) (b := v1) rfl rfl).mpr c3
        refine t_bindE (tfX9_numberOf v1 v2 r2.2 hr2_1 (by omega) (by omega)) (fun r3 er3 pr3 => ?_)
        have br3_0 : ((-1) ≤ r3.toInt ∧ r3.toInt ≤ 99) := pr3
        exact t_ret ⟨(by show (-1) ≤ (r3).toInt ∧ (r3).toInt ≤ 99; omega), hr2_1⟩
set_option maxRecDepth 100000 in
set_option maxHeartbeats 1000000 in
theorem tfX9_leaps_ {I0 : gM} (I : gM) (hM : MI false I0 I) : T (fX9_leaps_ I) (fun r => MI false I0 r.2) := by
  unfold fX9_leaps_
  refine t_bindE (tfX9_areTables I hM) (fun r1 er1 pr1 => ?_)
  have br1_0 : (0 ≤ r1.toInt ∧ r1.toInt ≤ 1) := pr1
  refine t_ite (fun c1 => ?_) (fun c1 => ?_)
  · have c1i := (iEQ (a := r1) (b := (0 : Int32)) rfl (by decide : (0 : Int32).toInt = 0)).mp c1
    exact t_ret hM
  · have c1i := mt (iEQ (a := r1) (b := (0 : Int32)) rfl (by decide : (0 : Int32).toInt = 0)).mpr c1
    refine t_bindE (tfX9_joinsNow I hM) (fun r2 er2 pr2 => ?_)
    obtain ⟨hr2_0, yr2_0⟩ := (show MI false I0 r2 ∧ (GJ9 r2) from pr2)
    exact t_ret hr2_0
set_option maxRecDepth 100000 in
set_option maxHeartbeats 1000000 in
theorem tfX9_beginnings {I0 : gM} (v1 : Int32) (I : gM) (hM : MI false I0 I) : T (fX9_beginnings v1 I) (fun r => MI false I0 r.2) := by
  unfold fX9_beginnings
  refine t_bindE (tfX9_areTables I hM) (fun r1 er1 pr1 => ?_)
  have br1_0 : (0 ≤ r1.toInt ∧ r1.toInt ≤ 1) := pr1
  refine t_ite (fun c1 => ?_) (fun c1 => ?_)
  · have c1i := (iEQ (a := r1) (b := (0 : Int32)) rfl (by decide : (0 : Int32).toInt = 0)).mp c1
    exact t_ret hM
  · have c1i := mt (iEQ (a := r1) (b := (0 : Int32)) rfl (by decide : (0 : Int32).toInt = 0)).mpr c1
    refine t_ite (fun c2 => ?_) (fun c2 => ?_)
    · have c2i := (iLE (a := (1 : Int32)) (b := v1) (by decide : (1 : Int32).toInt = 1) rfl).mp c2
      refine t_bindE (tfX9_joinsNow I hM) (fun r2 er2 pr2 => ?_)
      obtain ⟨hr2_0, yr2_0⟩ := (show MI false I0 r2 ∧ (GJ9 r2) from pr2)
      have q3 := hr2_0.at (k := 62) (j := 19) (lo := 0) (hi := 4) rfl
      refine t_ite (fun c4 => ?_) (fun c4 => ?_)
      · have c4i := (iLT (a := r2 62 19) (b := v1) rfl rfl).mp c4
        exact t_ret hr2_0
      · have c4i := mt (iLT (a := r2 62 19) (b := v1) rfl rfl).mpr c4
        refine t_rI (lo := (-2147483648)) (hi := 2147483647) hr2_0 (fun _ _ => rfl) rfl (by omega) (by omega) (fun u3 eu3 bu3 => ?_)
        exact t_ret hr2_0
    · have c2i := mt (iLE (a := (1 : Int32)) (b := v1) (by decide : (1 : Int32).toInt = 1) rfl).mpr c2
      exact t_ret hM
set_option maxRecDepth 100000 in
set_option maxHeartbeats 1000000 in
theorem tlX9_triesOrders_12 {I0 : gM}   (s : (Int32 × gM)) (hP : (0 ≤ (s.1).toInt ∧ (s.1).toInt ≤ 2147483647) ∧ MI false I0 s.2) : T (lX9_triesOrders_12 s) (fun r : gM => MI false I0 r) := by
  unfold lX9_triesOrders_12
  refine t_it (P := fun s : (Int32 × gM) => (0 ≤ (s.1).toInt ∧ (s.1).toInt ≤ 2147483647) ∧ MI false I0 s.2) (μ := fun s : (Int32 × gM) => (2147483648 - s.1.toInt).toNat) (fun s p => ?_) hP
  obtain ⟨b0, hs⟩ := p
  refine t_ite (fun c1 => ?_) (fun c1 => ?_)
  · have c1i := (iLE (a := (24 : Int32)) (b := s.1) (by decide : (24 : Int32).toInt = 24) rfl).mp c1
    exact t_ret (show MI false I0 s.2 from hs)
  · have c1i := mt (iLE (a := (24 : Int32)) (b := s.1) (by decide : (24 : Int32).toInt = 24) rfl).mpr c1
    refine t_bindE (tfX9_joins s.1 s.2 hs (by omega)) (fun r3 er3 pr3 => ?_)
    obtain ⟨hr3_0, yr3_0⟩ := (show MI false I0 r3 ∧ (GJ9 r3) from pr3)
    have q2 : (r3 62 31).toInt = (s.2 62 31).toInt := congrArg Int32.toInt (show r3 62 31 = s.2 62 31 from xfX9_joins s.1 s.2 er3 62 31 (Or.inr (by decide)) (by decide) (Or.inr (by decide)) (Or.inr (by decide)) (by decide) (by decide) (by decide) (by decide) (by decide) (by decide))
    refine t_ite (fun c3 => ?_) (fun c3 => ?_)
    · have c3i := (iEQ (a := r3 62 31) (b := ((-1) : Int32)) rfl (by decide : ((-1) : Int32).toInt = (-1))).mp c3
      unfold bX9_triesOrders_42
      refine t_pU (lo := (-2147483648)) (hi := 2147483647) hr3_0 rfl rfl (tTop _) (fun I4 eI4 hI4 => ?_)
      refine t_pU (lo := (-2147483648)) (hi := 2147483647) hI4 rfl rfl (tTop _) (fun I5 eI5 hI5 => ?_)
      unfold bX9_triesOrders_55
      refine t_pU (lo := (-2147483648)) (hi := 2147483647) hI5 rfl rfl (tTop _) (fun I6 eI6 hI6 => ?_)
      have m0 := ((tA rfl (by decide : (1 : Int32).toInt = 1) (by omega) (by omega)) : (s.1 + 1).toInt = (s.1.toInt + 1))
      have mm : (2147483648 - (s.1 + 1).toInt).toNat < (2147483648 - s.1.toInt).toNat := by omega
      have pp : (0 ≤ (s.1 + 1).toInt ∧ (s.1 + 1).toInt ≤ 2147483647) ∧ MI false I0 I6 := ⟨(by show (0 ≤ (s.1 + 1).toInt ∧ (s.1 + 1).toInt ≤ 2147483647); have q := ((tA rfl (by decide : (1 : Int32).toInt = 1) (by omega) (by omega)) : (s.1 + 1).toInt = (s.1.toInt + 1)); omega), hI6⟩
      exact t_ret ⟨pp, mm⟩
    · have c3i := mt (iEQ (a := r3 62 31) (b := ((-1) : Int32)) rfl (by decide : ((-1) : Int32).toInt = (-1))).mpr c3
      have q4 : (r3 62 32).toInt = (s.2 62 32).toInt := congrArg Int32.toInt (show r3 62 32 = s.2 62 32 from xfX9_joins s.1 s.2 er3 62 32 (Or.inr (by decide)) (by decide) (Or.inr (by decide)) (Or.inr (by decide)) (by decide) (by decide) (by decide) (by decide) (by decide) (by decide))
      refine t_ite (fun c5 => ?_) (fun c5 => ?_)
      · have c5i := (iLE (a := r3 62 32) (b := r3 62 27) rfl rfl).mp c5
        unfold bX9_triesOrders_55
        refine t_pU (lo := (-2147483648)) (hi := 2147483647) hr3_0 rfl rfl (tTop _) (fun I6 eI6 hI6 => ?_)
        have m0 := ((tA rfl (by decide : (1 : Int32).toInt = 1) (by omega) (by omega)) : (s.1 + 1).toInt = (s.1.toInt + 1))
        have mm : (2147483648 - (s.1 + 1).toInt).toNat < (2147483648 - s.1.toInt).toNat := by omega
        have pp : (0 ≤ (s.1 + 1).toInt ∧ (s.1 + 1).toInt ≤ 2147483647) ∧ MI false I0 I6 := ⟨(by show (0 ≤ (s.1 + 1).toInt ∧ (s.1 + 1).toInt ≤ 2147483647); have q := ((tA rfl (by decide : (1 : Int32).toInt = 1) (by omega) (by omega)) : (s.1 + 1).toInt = (s.1.toInt + 1)); omega), hI6⟩
        exact t_ret ⟨pp, mm⟩
      · have c5i := mt (iLE (a := r3 62 32) (b := r3 62 27) rfl rfl).mpr c5
        unfold bX9_triesOrders_42
        refine t_pU (lo := (-2147483648)) (hi := 2147483647) hr3_0 rfl rfl (tTop _) (fun I4 eI4 hI4 => ?_)
        refine t_pU (lo := (-2147483648)) (hi := 2147483647) hI4 rfl rfl (tTop _) (fun I5 eI5 hI5 => ?_)
        unfold bX9_triesOrders_55
        refine t_pU (lo := (-2147483648)) (hi := 2147483647) hI5 rfl rfl (tTop _) (fun I6 eI6 hI6 => ?_)
        have m0 := ((tA rfl (by decide : (1 : Int32).toInt = 1) (by omega) (by omega)) : (s.1 + 1).toInt = (s.1.toInt + 1))
        have mm : (2147483648 - (s.1 + 1).toInt).toNat < (2147483648 - s.1.toInt).toNat := by omega
        have pp : (0 ≤ (s.1 + 1).toInt ∧ (s.1 + 1).toInt ≤ 2147483647) ∧ MI false I0 I6 := ⟨(by show (0 ≤ (s.1 + 1).toInt ∧ (s.1 + 1).toInt ≤ 2147483647); have q := ((tA rfl (by decide : (1 : Int32).toInt = 1) (by omega) (by omega)) : (s.1 + 1).toInt = (s.1.toInt + 1)); omega), hI6⟩
        exact t_ret ⟨pp, mm⟩
set_option maxRecDepth 100000 in
set_option maxHeartbeats 1000000 in
theorem tfX9_triesOrders {I0 : gM} (I : gM) (hM : MI false I0 I) : T (fX9_triesOrders I) (fun r => MI false I0 r) := by
  unfold fX9_triesOrders
  refine t_pU (lo := (-2147483648)) (hi := 2147483647) hM rfl rfl (tTop _) (fun I1 eI1 hI1 => ?_)
  refine t_pU (lo := (-2147483648)) (hi := 2147483647) hI1 rfl rfl (tTop _) (fun I2 eI2 hI2 => ?_)
  refine t_bindE (tlX9_triesOrders_12 ((0 : Int32), I2) ⟨(by show (0 ≤ ((0 : Int32)).toInt ∧ ((0 : Int32)).toInt ≤ 2147483647); decide), hI2⟩) (fun w7 ew7 pw7 => ?_)
  have hw7_0 : MI false I0 w7 := pw7
  exact t_ret hw7_0
set_option maxRecDepth 100000 in
set_option maxHeartbeats 1000000 in
theorem tfX9_best {I0 : gM} (v1 : Int32) (I : gM) (hM : MI false I0 I) : T (fX9_best v1 I) (fun r => MI false I0 r.2) := by
  unfold fX9_best
  refine t_bindE (tfX9_areTables I hM) (fun r1 er1 pr1 => ?_)
  have br1_0 : (0 ≤ r1.toInt ∧ r1.toInt ≤ 1) := pr1
  refine t_ite (fun c1 => ?_) (fun c1 => ?_)
  · have c1i := (iEQ (a := r1) (b := (0 : Int32)) rfl (by decide : (0 : Int32).toInt = 0)).mp c1
    exact t_ret hM
  · have c1i := mt (iEQ (a := r1) (b := (0 : Int32)) rfl (by decide : (0 : Int32).toInt = 0)).mpr c1
    refine t_bindE (tfX9_in v1 (0 : Int32) (1 : Int32)) (fun r2 er2 pr2 => ?_)
    obtain ⟨br2_0, xr2_0⟩ := (show (0 ≤ r2.toInt ∧ r2.toInt ≤ 1) ∧ (r2.toInt = 0 ∨ ((0 : Int32).toInt ≤ v1.toInt ∧ v1.toInt ≤ (1 : Int32).toInt)) from pr2)
    have q2 : (0 : Int32).toInt = 0 := by decide
    have q3 : (1 : Int32).toInt = 1 := by decide
    refine t_ite (fun c4 => ?_) (fun c4 => ?_)
    · have c4i := (iEQ (a := r2) (b := (0 : Int32)) rfl (by decide : (0 : Int32).toInt = 0)).mp c4
      exact t_ret hM
    · have c4i := mt (iEQ (a := r2) (b := (0 : Int32)) rfl (by decide : (0 : Int32).toInt = 0)).mpr c4
      refine t_bindE (tfX9_triesOrders I hM) (fun r3 er3 pr3 => ?_)
      have hr3_0 : MI false I0 r3 := pr3
      refine t_ite (fun c5 => ?_) (fun c5 => ?_)
      · have c5i := (iEQ (a := v1) (b := (0 : Int32)) rfl (by decide : (0 : Int32).toInt = 0)).mp c5
        exact t_ret hr3_0
      · have c5i := mt (iEQ (a := v1) (b := (0 : Int32)) rfl (by decide : (0 : Int32).toInt = 0)).mpr c5
        exact t_ret hr3_0
set_option maxRecDepth 100000 in
set_option maxHeartbeats 1000000 in
theorem tlX9_plain_13 {I0 : gM} (I : gM) (hM : MI false I0 I) (s : (Int32 × Int32)) (hP : (0 ≤ (s.2).toInt ∧ (s.2).toInt ≤ 2147483647)) : T (lX9_plain_13 I s) (fun r : Int32 => True) := by
  unfold lX9_plain_13
  refine t_it (P := fun s : (Int32 × Int32) => (0 ≤ (s.2).toInt ∧ (s.2).toInt ≤ 2147483647)) (μ := fun s : (Int32 × Int32) => (2147483648 - s.2.toInt).toNat) (fun s p => ?_) hP
  have b1 : (0 ≤ (s.2).toInt ∧ (s.2).toInt ≤ 2147483647) := p
  have q1 := hM.at (k := 62) (j := 17) (lo := 0) (hi := 4) rfl
  refine t_ite (fun c2 => ?_) (fun c2 => ?_)
  · have c2i := (iLE (a := I 62 17) (b := s.2) rfl rfl).mp c2
    exact t_ret (show True from trivial)
  · have c2i := mt (iLE (a := I 62 17) (b := s.2) rfl rfl).mpr c2
    refine t_bindE (tfX9_isUsed s.2 I hM) (fun r2 er2 pr2 => ?_)
    have br2_0 : (0 ≤ r2.toInt ∧ r2.toInt ≤ 1) := pr2
    refine t_ite (fun c3 => ?_) (fun c3 => ?_)
    · have c3i := (iEQ (a := r2) (b := (0 : Int32)) rfl (by decide : (0 : Int32).toInt = 0)).mp c3
      unfold bX9_plain_39
      have m1 := ((tA rfl (by decide : (1 : Int32).toInt = 1) (by omega) (by omega)) : (s.2 + 1).toInt = (s.2.toInt + 1))
      have mm : (2147483648 - (s.2 + 1).toInt).toNat < (2147483648 - s.2.toInt).toNat := by omega
      have pp : (0 ≤ (s.2 + 1).toInt ∧ (s.2 + 1).toInt ≤ 2147483647) := (by show (0 ≤ (s.2 + 1).toInt ∧ (s.2 + 1).toInt ≤ 2147483647); have q := ((tA rfl (by decide : (1 : Int32).toInt = 1) (by omega) (by omega)) : (s.2 + 1).toInt = (s.2.toInt + 1)); omega)
      exact t_ret ⟨pp, mm⟩
    · have c3i := mt (iEQ (a := r2) (b := (0 : Int32)) rfl (by decide : (0 : Int32).toInt = 0)).mpr c3
      refine t_bindE (tfX9_many s.2 I hM (by omega)) (fun r3 er3 pr3 => ?_)
      obtain ⟨br3_0, xr3_0⟩ := (show (0 ≤ r3.toInt ∧ r3.toInt ≤ 12) ∧ (r3.toInt = (I 70 (2 + s.2.toInt).toNat).toInt) from pr3)
      unfold bX9_plain_39
      have m1 := ((tA rfl (by decide : (1 : Int32).toInt = 1) (by omega) (by omega)) : (s.2 + 1).toInt = (s.2.toInt + 1))
      have mm : (2147483648 - (s.2 + 1).toInt).toNat < (2147483648 - s.2.toInt).toNat := by omega
      have pp : (0 ≤ (s.2 + 1).toInt ∧ (s.2 + 1).toInt ≤ 2147483647) := (by show (0 ≤ (s.2 + 1).toInt ∧ (s.2 + 1).toInt ≤ 2147483647); have q := ((tA rfl (by decide : (1 : Int32).toInt = 1) (by omega) (by omega)) : (s.2 + 1).toInt = (s.2.toInt + 1)); omega)
      exact t_ret ⟨pp, mm⟩
set_option maxRecDepth 100000 in
set_option maxHeartbeats 1000000 in
theorem tfX9_plain {I0 : gM} (I : gM) (hM : MI false I0 I) : T (fX9_plain I) (fun r => True) := by
  unfold fX9_plain
  refine t_bindE (tfX9_areTables I hM) (fun r1 er1 pr1 => ?_)
  have br1_0 : (0 ≤ r1.toInt ∧ r1.toInt ≤ 1) := pr1
  refine t_ite (fun c1 => ?_) (fun c1 => ?_)
  · have c1i := (iEQ (a := r1) (b := (0 : Int32)) rfl (by decide : (0 : Int32).toInt = 0)).mp c1
    exact t_ret trivial
  · have c1i := mt (iEQ (a := r1) (b := (0 : Int32)) rfl (by decide : (0 : Int32).toInt = 0)).mpr c1
    refine t_bindE (tlX9_plain_13 I hM ((1 : Int32), (0 : Int32)) (by show (0 ≤ ((0 : Int32)).toInt ∧ ((0 : Int32)).toInt ≤ 2147483647); decide)) (fun w4 ew4 pw4 => ?_)
    exact t_ret trivial
set_option maxRecDepth 100000 in
set_option maxHeartbeats 1000000 in
theorem tlX9_isOf_6 {I0 : gM} (v1 : Int32) (v2 : Int32) (v3 : Int32) (I : gM) (hM : MI false I0 I) (av1 : 0 ≤ v1.toInt ∧ v1.toInt ≤ 20735) (av2 : 0 ≤ v2.toInt ∧ v2.toInt ≤ 3) (av3 : 0 ≤ v3.toInt ∧ v3.toInt ≤ 11) (s : (Int32 × Int32)) (hP : (0 ≤ (s.1).toInt ∧ (s.1).toInt ≤ 1) ∧ (0 ≤ (s.2).toInt ∧ (s.2).toInt ≤ 3)) : T (lX9_isOf_6 v1 v2 v3 I s) (fun r : Int32 => (0 ≤ r.toInt ∧ r.toInt ≤ 1)) := by
  unfold lX9_isOf_6
  refine t_it (P := fun s : (Int32 × Int32) => (0 ≤ (s.1).toInt ∧ (s.1).toInt ≤ 1) ∧ (0 ≤ (s.2).toInt ∧ (s.2).toInt ≤ 3)) (μ := fun s : (Int32 × Int32) => (4 - s.2.toInt).toNat) (fun s p => ?_) hP
  obtain ⟨b0, b1⟩ := p
  refine t_rI (lo := 0) (hi := 3) hM (fun _ _ => rfl) rfl (by omega) (by omega) (fun u1 eu1 bu1 => ?_)
  refine t_ite (fun c1 => ?_) (fun c1 => ?_)
  · have c1i := (iLE (a := u1) (b := s.2) rfl rfl).mp c1
    exact t_ret (show (0 ≤ (s.1).toInt ∧ (s.1).toInt ≤ 1) from (by omega))
  · have c1i := mt (iLE (a := u1) (b := s.2) rfl rfl).mpr c1
    refine t_ite (fun c2 => ?_) (fun c2 => ?_)
    · have c2i := (iEQ (a := s.1) (b := (0 : Int32)) rfl (by decide : (0 : Int32).toInt = 0)).mp c2
      unfold bX9_isOf_58
      unfold bX9_isOf_59
      have m0 : (0 : Int32).toInt = 0 := (by decide)
      have m1 := ((tA rfl (by decide : (1 : Int32).toInt = 1) (by omega) (by omega)) : (s.2 + 1).toInt = (s.2.toInt + 1))
      have mm : (4 - (s.2 + 1).toInt).toNat < (4 - s.2.toInt).toNat := by omega
      have pp : (0 ≤ ((0 : Int32)).toInt ∧ ((0 : Int32)).toInt ≤ 1) ∧ (0 ≤ (s.2 + 1).toInt ∧ (s.2 + 1).toInt ≤ 3) := ⟨(by show (0 ≤ ((0 : Int32)).toInt ∧ ((0 : Int32)).toInt ≤ 1); decide), (by show (0 ≤ (s.2 + 1).toInt ∧ (s.2 + 1).toInt ≤ 3); have q := ((tA rfl (by decide : (1 : Int32).toInt = 1) (by omega) (by omega)) : (s.2 + 1).toInt = (s.2.toInt + 1)); omega)⟩
      exact t_ret ⟨pp, mm⟩
    · have c2i := mt (iEQ (a := s.1) (b := (0 : Int32)) rfl (by decide : (0 : Int32).toInt = 0)).mpr c2
      refine t_rI (lo := 0) (hi := 3) hM (fun _ _ => rfl) (tA (tM (by decide : (3 : Int32).toInt = 3) rfl (by omega) (by omega)) rfl (by omega) (by omega)) (by omega) (by omega) (fun u2 eu2 bu2 => ?_)
      refine t_bindE (tfX9_numberOf v1 u2 I hM (by omega) (by omega)) (fun r3 er3 pr3 => ?_)
      have br3_0 : ((-1) ≤ r3.toInt ∧ r3.toInt ≤ 99) := pr3
      refine t_bindE (tfX9_rowAt v2 v3 (by omega) (by omega)) (fun r4 er4 pr4 => ?_)
      obtain ⟨br4_0, xr4_0⟩ := (show (3 ≤ r4.toInt ∧ r4.toInt ≤ 150) ∧ (r4.toInt = 6 + 3 * (12 * v2.toInt + v3.toInt)) from pr4)
      refine t_rJ (lo := (-1)) (hi := 99) hM (tA rfl rfl (by omega) (by omega)) (by omega) (by omega) (rgRow (by omega) (by omega)) (fun u5 eu5 bu5 => ?_)
      refine t_ite (fun c3 => ?_) (fun c3 => ?_)
      · have c3i := (iEQ (a := r3) (b := u5) rfl rfl).mp c3
        unfold bX9_isOf_59
        have m0 : (1 : Int32).toInt = 1 := (by decide)
        have m1 := ((tA rfl (by decide : (1 : Int32).toInt = 1) (by omega) (by omega)) : (s.2 + 1).toInt = (s.2.toInt + 1))
        have mm : (4 - (s.2 + 1).toInt).toNat < (4 - s.2.toInt).toNat := by omega
        have pp : (0 ≤ ((1 : Int32)).toInt ∧ ((1 : Int32)).toInt ≤ 1) ∧ (0 ≤ (s.2 + 1).toInt ∧ (s.2 + 1).toInt ≤ 3) := ⟨(by show (0 ≤ ((1 : Int32)).toInt ∧ ((1 : Int32)).toInt ≤ 1); decide), (by show (0 ≤ (s.2 + 1).toInt ∧ (s.2 + 1).toInt ≤ 3); have q := ((tA rfl (by decide : (1 : Int32).toInt = 1) (by omega) (by omega)) : (s.2 + 1).toInt = (s.2.toInt + 1)); omega)⟩
        exact t_ret ⟨pp, mm⟩
      · have c3i := mt (iEQ (a := r3) (b := u5) rfl rfl).mpr c3
        unfold bX9_isOf_58
        unfold bX9_isOf_59
        have m0 : (0 : Int32).toInt = 0 := (by decide)
        have m1 := ((tA rfl (by decide : (1 : Int32).toInt = 1) (by omega) (by omega)) : (s.2 + 1).toInt = (s.2.toInt + 1))
        have mm : (4 - (s.2 + 1).toInt).toNat < (4 - s.2.toInt).toNat := by omega
        have pp : (0 ≤ ((0 : Int32)).toInt ∧ ((0 : Int32)).toInt ≤ 1) ∧ (0 ≤ (s.2 + 1).toInt ∧ (s.2 + 1).toInt ≤ 3) := ⟨(by show (0 ≤ ((0 : Int32)).toInt ∧ ((0 : Int32)).toInt ≤ 1); decide), (by show (0 ≤ (s.2 + 1).toInt ∧ (s.2 + 1).toInt ≤ 3); have q := ((tA rfl (by decide : (1 : Int32).toInt = 1) (by omega) (by omega)) : (s.2 + 1).toInt = (s.2.toInt + 1)); omega)⟩
        exact t_ret ⟨pp, mm⟩
set_option maxRecDepth 100000 in
set_option maxHeartbeats 1000000 in
theorem tfX9_isOf {I0 : gM} (v1 : Int32) (v2 : Int32) (v3 : Int32) (I : gM) (hM : MI false I0 I) (av1 : 0 ≤ v1.toInt ∧ v1.toInt ≤ 20735) (av2 : 0 ≤ v2.toInt ∧ v2.toInt ≤ 3) (av3 : 0 ≤ v3.toInt ∧ v3.toInt ≤ 11) : T (fX9_isOf v1 v2 v3 I) (fun r => (0 ≤ r.toInt ∧ r.toInt ≤ 1)) := by
  unfold fX9_isOf
  refine t_bindE (tlX9_isOf_6 v1 v2 v3 I hM (by omega) (by omega) (by omega) ((1 : Int32), (0 : Int32)) ⟨(by show (0 ≤ ((1 : Int32)).toInt ∧ ((1 : Int32)).toInt ≤ 1); decide), (by show (0 ≤ ((0 : Int32)).toInt ∧ ((0 : Int32)).toInt ≤ 3); decide)⟩) (fun w6 ew6 pw6 => ?_)
  have bw6_0 : (0 ≤ w6.toInt ∧ w6.toInt ≤ 1) := pw6
  refine t_bO (by omega) ?_
  exact t_ret (by show 0 ≤ (w6).toInt ∧ (w6).toInt ≤ 1; omega)
set_option maxRecDepth 100000 in
set_option maxHeartbeats 1000000 in
theorem tlX9_givenBy_24 {I0 : gM} (v1 : Int32) (v3 : Int32) (I : gM) (hM : MI false I0 I) (av1 : 0 ≤ v1.toInt ∧ v1.toInt ≤ 3) (av3 : 0 ≤ v3.toInt ∧ v3.toInt ≤ 11) (s : (Int32 × Int32)) (hP : (0 ≤ (s.2).toInt ∧ (s.2).toInt ≤ 2147483647)) : T (lX9_givenBy_24 v1 v3 I s) (fun r : Int32 => True) := by
  unfold lX9_givenBy_24
  refine t_it (P := fun s : (Int32 × Int32) => (0 ≤ (s.2).toInt ∧ (s.2).toInt ≤ 2147483647)) (μ := fun s : (Int32 × Int32) => (2147483648 - s.2.toInt).toNat) (fun s p => ?_) hP
  have b1 : (0 ≤ (s.2).toInt ∧ (s.2).toInt ≤ 2147483647) := p
  have q1 := hM.at (k := 62) (j := 26) (lo := 0) (hi := 20736) rfl
  refine t_ite (fun c2 => ?_) (fun c2 => ?_)
  · have c2i := (iLE (a := I 62 26) (b := s.2) rfl rfl).mp c2
    exact t_ret (show True from trivial)
  · have c2i := mt (iLE (a := I 62 26) (b := s.2) rfl rfl).mpr c2
    refine t_bindE (tfX9_has s.1 v3) (fun r3 er3 pr3 => ?_)
    have br3_0 : (0 ≤ r3.toInt ∧ r3.toInt ≤ 1) := pr3
    refine t_ite (fun c3 => ?_) (fun c3 => ?_)
    · have c3i := (iEQ (a := r3) (b := (0 : Int32)) rfl (by decide : (0 : Int32).toInt = 0)).mp c3
      refine t_bindE (tfX9_isOf s.2 v1 v3 I hM (by omega) (by omega) (by omega)) (fun r4 er4 pr4 => ?_)
      have br4_0 : (0 ≤ r4.toInt ∧ r4.toInt ≤ 1) := pr4
      refine t_ite (fun c4 => ?_) (fun c4 => ?_)
      · have c4i := (iEQ (a := r4) (b := (0 : Int32)) rfl (by decide : (0 : Int32).toInt = 0)).mp c4
        unfold bX9_givenBy_60
        have m1 := ((tA rfl (by decide : (1 : Int32).toInt = 1) (by omega) (by omega)) : (s.2 + 1).toInt = (s.2.toInt + 1))
        have mm : (2147483648 - (s.2 + 1).toInt).toNat < (2147483648 - s.2.toInt).toNat := by omega
        have pp : (0 ≤ (s.2 + 1).toInt ∧ (s.2 + 1).toInt ≤ 2147483647) := (by show (0 ≤ (s.2 + 1).toInt ∧ (s.2 + 1).toInt ≤ 2147483647); have q := ((tA rfl (by decide : (1 : Int32).toInt = 1) (by omega) (by omega)) : (s.2 + 1).toInt = (s.2.toInt + 1)); omega)
        exact t_ret ⟨pp, mm⟩
      · have c4i := mt (iEQ (a := r4) (b := (0 : Int32)) rfl (by decide : (0 : Int32).toInt = 0)).mpr c4
        unfold bX9_givenBy_60
        have m1 := ((tA rfl (by decide : (1 : Int32).toInt = 1) (by omega) (by omega)) : (s.2 + 1).toInt = (s.2.toInt + 1))
        have mm : (2147483648 - (s.2 + 1).toInt).toNat < (2147483648 - s.2.toInt).toNat := by omega
        have pp : (0 ≤ (s.2 + 1).toInt ∧ (s.2 + 1).toInt ≤ 2147483647) := (by show (0 ≤ (s.2 + 1).toInt ∧ (s.2 + 1).toInt ≤ 2147483647); have q := ((tA rfl (by decide : (1 : Int32).toInt = 1) (by omega) (by omega)) : (s.2 + 1).toInt = (s.2.toInt + 1)); omega)
        exact t_ret ⟨pp, mm⟩
    · have c3i := mt (iEQ (a := r3) (b := (0 : Int32)) rfl (by decide : (0 : Int32).toInt = 0)).mpr c3
      exact t_ret (show True from trivial)
set_option maxRecDepth 100000 in
set_option maxHeartbeats 1000000 in
theorem tlX9_givenBy_4 {I0 : gM} (v1 : Int32) (I : gM) (hM : MI false I0 I) (av1 : 0 ≤ v1.toInt ∧ v1.toInt ≤ 3) (s : (Int32 × Int32)) (hP : (0 ≤ (s.2).toInt ∧ (s.2).toInt ≤ 2147483647)) : T (lX9_givenBy_4 v1 I s) (fun r : Int32 => True) := by
  unfold lX9_givenBy_4
  refine t_it (P := fun s : (Int32 × Int32) => (0 ≤ (s.2).toInt ∧ (s.2).toInt ≤ 2147483647)) (μ := fun s : (Int32 × Int32) => (2147483648 - s.2.toInt).toNat) (fun s p => ?_) hP
  have b1 : (0 ≤ (s.2).toInt ∧ (s.2).toInt ≤ 2147483647) := p
  refine t_bindE (tfX9_many v1 I hM (by omega)) (fun r1 er1 pr1 => ?_)
  obtain ⟨br1_0, xr1_0⟩ := (show (0 ≤ r1.toInt ∧ r1.toInt ≤ 12) ∧ (r1.toInt = (I 70 (2 + v1.toInt).toNat).toInt) from pr1)
  refine t_ite (fun c1 => ?_) (fun c1 => ?_)
  · have c1i := (iLE (a := r1) (b := s.2) rfl rfl).mp c1
    exact t_ret (show True from trivial)
  · have c1i := mt (iLE (a := r1) (b := s.2) rfl rfl).mpr c1
    refine t_bindE (tfX9_isUsed v1 I hM) (fun r2 er2 pr2 => ?_)
    have br2_0 : (0 ≤ r2.toInt ∧ r2.toInt ≤ 1) := pr2
    refine t_ite (fun c2 => ?_) (fun c2 => ?_)
    · have c2i := (iEQ (a := r2) (b := (0 : Int32)) rfl (by decide : (0 : Int32).toInt = 0)).mp c2
      exact t_ret (show True from trivial)
    · have c2i := mt (iEQ (a := r2) (b := (0 : Int32)) rfl (by decide : (0 : Int32).toInt = 0)).mpr c2
      refine t_bindE (tlX9_givenBy_24 v1 s.2 I hM (by omega) (by omega) (s.1, (0 : Int32)) (by show (0 ≤ ((0 : Int32)).toInt ∧ ((0 : Int32)).toInt ≤ 2147483647); decide)) (fun w5 ew5 pw5 => ?_)
      unfold bX9_givenBy_68
      have m1 := ((tA rfl (by decide : (1 : Int32).toInt = 1) (by omega) (by omega)) : (s.2 + 1).toInt = (s.2.toInt + 1))
      have mm : (2147483648 - (s.2 + 1).toInt).toNat < (2147483648 - s.2.toInt).toNat := by omega
      have pp : (0 ≤ (s.2 + 1).toInt ∧ (s.2 + 1).toInt ≤ 2147483647) := (by show (0 ≤ (s.2 + 1).toInt ∧ (s.2 + 1).toInt ≤ 2147483647); have q := ((tA rfl (by decide : (1 : Int32).toInt = 1) (by omega) (by omega)) : (s.2 + 1).toInt = (s.2.toInt + 1)); omega)
      exact t_ret ⟨pp, mm⟩
set_option maxRecDepth 100000 in
set_option maxHeartbeats 1000000 in
theorem tfX9_givenBy {I0 : gM} (v1 : Int32) (I : gM) (hM : MI false I0 I) (av1 : 0 ≤ v1.toInt ∧ v1.toInt ≤ 3) : T (fX9_givenBy v1 I) (fun r => True) := by
  unfold fX9_givenBy
  refine t_bindE (tlX9_givenBy_4 v1 I hM (by omega) ((0 : Int32), (0 : Int32)) (by show (0 ≤ ((0 : Int32)).toInt ∧ ((0 : Int32)).toInt ≤ 2147483647); decide)) (fun w6 ew6 pw6 => ?_)
  exact t_ret trivial
set_option maxRecDepth 100000 in
set_option maxHeartbeats 1000000 in
theorem tfX9_given {I0 : gM} (v1 : Int32) (I : gM) (hM : MI false I0 I) : T (fX9_given v1 I) (fun r => MI false I0 r.2) := by
  unfold fX9_given
  refine t_bindE (tfX9_isTable v1 I hM) (fun r1 er1 pr1 => ?_)
  obtain ⟨br1_0, xr1_0⟩ := (show (0 ≤ r1.toInt ∧ r1.toInt ≤ 1) ∧ (r1.toInt = 0 ∨ (0 ≤ v1.toInt ∧ v1.toInt < (I 62 17).toInt)) from pr1)
  have q1 := hM.at (k := 62) (j := 17) (lo := 0) (hi := 4) rfl
  refine t_ite (fun c2 => ?_) (fun c2 => ?_)
  · have c2i := (iEQ (a := r1) (b := (0 : Int32)) rfl (by decide : (0 : Int32).toInt = 0)).mp c2
    exact t_ret hM
  · have c2i := mt (iEQ (a := r1) (b := (0 : Int32)) rfl (by decide : (0 : Int32).toInt = 0)).mpr c2
    refine t_bindE (tfX9_joinsNow I hM) (fun r2 er2 pr2 => ?_)
    obtain ⟨hr2_0, yr2_0⟩ := (show MI false I0 r2 ∧ (GJ9 r2) from pr2)
    refine t_bindE (tfX9_givenBy v1 r2 hr2_0 (by omega)) (fun r3 er3 pr3 => ?_)
    exact t_ret hr2_0
set_option maxRecDepth 100000 in
set_option maxHeartbeats 1000000 in
theorem tfX9_without {I0 : gM} (v1 : Int32) (I : gM) (hM : MI false I0 I) : T (fX9_without v1 I) (fun r => ((-1) ≤ r.1.toInt ∧ r.1.toInt ≤ 20736) ∧ MI false I0 r.2) := by
  unfold fX9_without
  refine t_bindE (tfX9_isTable v1 I hM) (fun r1 er1 pr1 => ?_)
  obtain ⟨br1_0, xr1_0⟩ := (show (0 ≤ r1.toInt ∧ r1.toInt ≤ 1) ∧ (r1.toInt = 0 ∨ (0 ≤ v1.toInt ∧ v1.toInt < (I 62 17).toInt)) from pr1)
  have q1 := hM.at (k := 62) (j := 17) (lo := 0) (hi := 4) rfl
  refine t_ite (fun c2 => ?_) (fun c2 => ?_)
  · have c2i := (iEQ (a := r1) (b := (0 : Int32)) rfl (by decide : (0 : Int32).toInt = 0)).mp c2
    exact t_ret ⟨(by show (-1) ≤ (((-1) : Int32)).toInt ∧ (((-1) : Int32)).toInt ≤ 20736; decide), hM⟩
  · have c2i := mt (iEQ (a := r1) (b := (0 : Int32)) rfl (by decide : (0 : Int32).toInt = 0)).mpr c2
    refine t_rJ (lo := (-2147483648)) (hi := 2147483647) hM (by decide : (0 : Int32).toInt = 0) (by omega) (by omega) rfl (fun u2 eu2 bu2 => ?_)
    refine t_ite (fun c3 => ?_) (fun c3 => ?_)
    · have c3i := (iEQ (a := u2) (b := (1 : Int32) <<< (v1 &&& 31)) rfl rfl).mp c3
      exact t_ret ⟨(by show (-1) ≤ (((-1) : Int32)).toInt ∧ (((-1) : Int32)).toInt ≤ 20736; decide), hM⟩
    · have c3i := mt (iEQ (a := u2) (b := (1 : Int32) <<< (v1 &&& 31)) rfl rfl).mpr c3
      refine t_rJ (lo := (-2147483648)) (hi := 2147483647) hM (by decide : (0 : Int32).toInt = 0) (by omega) (by omega) rfl (fun u3 eu3 bu3 => ?_)
      refine t_rJ (lo := (-2147483648)) (hi := 2147483647) hM (by decide : (0 : Int32).toInt = 0) (by omega) (by omega) rfl (fun u4 eu4 bu4 => ?_)
      refine t_wJ (lo := (-2147483648)) (hi := 2147483647) hM rfl (by decide : (0 : Int32).toInt = 0) (by omega) (by omega) rfl (tTop _) (fun I5 eI5 hI5 => ?_)
      refine t_bindE (tfX9_rowsNow I5 hI5) (fun r6 er6 pr6 => ?_)
      obtain ⟨br6_0, hr6_1⟩ := (show (0 ≤ r6.1.toInt ∧ r6.1.toInt ≤ 20736) ∧ MI false I0 r6.2 from pr6)
      refine t_wJ (lo := (-2147483648)) (hi := 2147483647) hr6_1 rfl (by decide : (0 : Int32).toInt = 0) (by omega) (by omega) rfl (tTop _) (fun I7 eI7 hI7 => ?_)
      exact t_ret ⟨(by show (-1) ≤ (r6.1).toInt ∧ (r6.1).toInt ≤ 20736; omega), hI7⟩
end P_28a_safe9b
