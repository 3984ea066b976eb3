/-! the reference: whether an act can be, and the act -/
theorem n_in (v a b : Int32) : (a.toInt ≤ v.toInt ∧ v.toInt ≤ b.toInt ∧ fX9_in v a b = some 1) ∨ (¬ (a.toInt ≤ v.toInt ∧ v.toInt ≤ b.toInt) ∧ fX9_in v a b = some 0) := by
  unfold fX9_in
  by_cases h : v < a
  · rw [if_pos h]
    have := (iLT rfl rfl).mp h
    exact Or.inr ⟨by omega, rfl⟩
  · rw [if_neg h]
    have h1 := mt (iLT (a := v) (b := a) rfl rfl).mpr h
    by_cases h2 : b < v
    · rw [if_pos h2]
      have := (iLT rfl rfl).mp h2
      exact Or.inr ⟨by omega, rfl⟩
    · rw [if_neg h2]
      have := mt (iLT (a := b) (b := v) rfl rfl).mpr h2
      exact Or.inl ⟨by omega, by omega, rfl⟩
theorem t0i : (0 : Int32).toInt = 0 := by decide
theorem t1i : (1 : Int32).toInt = 1 := by decide
theorem t99i : (99 : Int32).toInt = 99 := by decide
theorem n_isTable {I : gM} {n : Nat} (hn : n ≤ 4) (e : I 62 17 = nI n) (v : Int32) : (∃ t, t < n ∧ v = nI t ∧ fX9_isTable v I = some 1) ∨ ((∀ t, t < n → v ≠ nI t) ∧ fX9_isTable v I = some 0) := by
  have en : (I 62 17 - 1).toInt = (n : Int) - 1 := by rw [e]; exact tS (tnI (by omega)) t1i (by omega) (by omega)
  unfold fX9_isTable
  rcases n_in v 0 (I 62 17 - 1) with ⟨h1, h2, h3⟩ | ⟨h1, h3⟩
  · rw [h3, obs, bO_1, obs]
    rw [t0i] at h1
    exact Or.inl ⟨v.toInt.toNat, by omega, nI_self h1, rfl⟩
  · rw [h3, obs, bO_0, obs]
    refine Or.inr ⟨fun t ht hv => h1 ?_, rfl⟩
    rw [hv, tnI (by omega), t0i]; omega
theorem n_areTables {I : gM} {n : Nat} (hn : n ≤ 4) (e : I 62 17 = nI n) : fX9_areTables I = some (if n = 0 then 0 else 1) := by
  unfold fX9_areTables
  by_cases h : n = 0
  · subst h
    rw [if_pos (by rw [e]; decide), if_pos rfl]
  · rw [if_neg (by rw [e]; exact mt (nI_leI (a := n) (b := 0) (by omega) (by omega)).mp (by omega)), if_neg h]
/-- numbers for the letters of a table -/
def colOK (k w : Nat) (y : Int32) : Prop := (k < w → 0 ≤ y.toInt ∧ y.toInt ≤ 99) ∧ (w ≤ k → y = -1)
theorem colOK.a {k w : Nat} {y : Int32} (h : k < w) (c : 0 ≤ y.toInt ∧ y.toInt ≤ 99) : colOK k w y := ⟨fun _ => c, fun q => by omega⟩
theorem colOK.b {k w : Nat} {y : Int32} (h : w ≤ k) (c : y = -1) : colOK k w y := ⟨fun q => by omega, fun _ => c⟩
def rowOK (w : Nat) (x y z : Int32) : Prop := (0 ≤ x.toInt ∧ x.toInt ≤ 99) ∧ colOK 1 w y ∧ colOK 2 w z
theorem n_isRow {I : gM} {t w : Nat} (ht : t < 4) (hw : w ≤ 3) (e : I 72 t = nI w) (x y z : Int32) : (rowOK w x y z ∧ fX9_isRow (nI t) x y z I = some 1) ∨ (¬ rowOK w x y z ∧ fX9_isRow (nI t) x y z I = some 0) := by
  have last : ∀ b : Nat, b ≤ 1 → ((b = 1 ∧ colOK 2 w z) ∧ bX9_isRow_47 (nI t) z (nI b) I = some 1) ∨ (¬ (b = 1 ∧ colOK 2 w z) ∧ bX9_isRow_47 (nI t) z (nI b) I = some 0) := fun b hb => by
    unfold bX9_isRow_47
    rcases (by omega : b = 0 ∨ b = 1) with rfl | rfl
    · rw [if_pos (show nI 0 = 0 from rfl)]; exact Or.inr ⟨fun q => absurd q.1 (by omega), rfl⟩
    · rw [if_neg (show ¬ nI 1 = 0 from by decide), rI_n (by omega) (by omega), obs, e]
      by_cases c : w ≤ 2
      · rw [if_pos (show nI w ≤ 2 from (nI_leI (b := 2) (by omega) (by omega)).mpr c)]
        by_cases c2 : z = -1
        · rw [if_pos c2]; exact Or.inl ⟨⟨rfl, colOK.b c c2⟩, rfl⟩
        · rw [if_neg c2]; exact Or.inr ⟨fun q => c2 (q.2.2 c), rfl⟩
      · rw [if_neg (show ¬ nI w ≤ 2 from mt (nI_leI (a := w) (b := 2) (by omega) (by omega)).mp c)]
        rcases n_in z 0 99 with ⟨h1, h2, h3⟩ | ⟨h1, h3⟩
        · rw [h3, obs, if_neg (by decide)]
          rw [t0i] at h1
          rw [t99i] at h2
          exact Or.inl ⟨⟨rfl, colOK.a (by omega) ⟨h1, h2⟩⟩, rfl⟩
        · rw [h3, obs, if_pos rfl]
          rw [t0i, t99i] at h1
          exact Or.inr ⟨fun q => h1 (q.2.1 (by omega)), rfl⟩
  have fin : ∀ (b : Nat), b ≤ 1 → ((0 ≤ x.toInt ∧ x.toInt ≤ 99) ∧ colOK 1 w y ↔ b = 1) → (rowOK w x y z ∧ bX9_isRow_47 (nI t) z (nI b) I = some 1) ∨ (¬ rowOK w x y z ∧ bX9_isRow_47 (nI t) z (nI b) I = some 0) := fun b hb hx => by
    rcases last b hb with ⟨⟨p1, p2⟩, q⟩ | ⟨p, q⟩
    · obtain ⟨r1, r2⟩ := hx.mpr p1
      exact Or.inl ⟨⟨r1, r2, p2⟩, q⟩
    · exact Or.inr ⟨fun r => p ⟨hx.mp ⟨r.1, r.2.1⟩, r.2.2⟩, q⟩
  unfold fX9_isRow
  rcases n_in x 0 99 with ⟨h1, h2, h3⟩ | ⟨h1, h3⟩
  · rw [t0i] at h1
    rw [t99i] at h2
    rw [h3, obs, if_neg (by decide), rI_n (by omega) (by omega), obs, e]
    by_cases c : w ≤ 1
    · rw [if_pos (show nI w ≤ 1 from (nI_leI (b := 1) (by omega) (by omega)).mpr c)]
      by_cases c2 : y = -1
      · rw [if_pos c2]
        exact fin 1 (by omega) ⟨fun _ => rfl, fun _ => ⟨⟨h1, h2⟩, colOK.b c c2⟩⟩
      · rw [if_neg c2]
        exact fin 0 (by omega) ⟨fun q => absurd (q.2.2 c) c2, fun q => absurd q (by omega)⟩
    · rw [if_neg (show ¬ nI w ≤ 1 from mt (nI_leI (a := w) (b := 1) (by omega) (by omega)).mp c)]
      rcases n_in y 0 99 with ⟨g1, g2, g3⟩ | ⟨g1, g3⟩
      · rw [g3, obs, if_neg (by decide)]
        rw [t0i] at g1
        rw [t99i] at g2
        exact fin 1 (by omega) ⟨fun _ => rfl, fun _ => ⟨⟨h1, h2⟩, colOK.a (by omega) ⟨g1, g2⟩⟩⟩
      · rw [g3, obs, if_pos rfl]
        rw [t0i, t99i] at g1
        exact fin 0 (by omega) ⟨fun q => absurd (q.2.1 (by omega)) g1, fun q => absurd q (by omega)⟩
  · rw [t0i, t99i] at h1
    rw [h3, obs, if_pos rfl]
    exact fin 0 (by omega) ⟨fun q => absurd q.1 h1, fun q => absurd q (by omega)⟩
theorem n_whyPut {I : gM} {n t w m : Nat} (hn : n ≤ 4) (en : I 62 17 = nI n) (ht : t < n) (hw : w ≤ 3) (ew : I 72 t = nI w) (hm : m ≤ 12) (em : I 70 (2 + t) = nI m) (x y z : Int32) : (¬ rowOK w x y z ∧ fX9_whyPut (nI t) x y z I = some 1) ∨ (rowOK w x y z ∧ fX9_hasRow (nI t) x y z I = some 1 ∧ fX9_whyPut (nI t) x y z I = some 2) ∨ (rowOK w x y z ∧ fX9_hasRow (nI t) x y z I = some 0 ∧ m = 12 ∧ fX9_whyPut (nI t) x y z I = some 3) ∨ (rowOK w x y z ∧ fX9_hasRow (nI t) x y z I = some 0 ∧ m < 12 ∧ fX9_whyPut (nI t) x y z I = some (-1)) := by
  have it : fX9_isTable (nI t) I = some 1 := by
    rcases n_isTable hn en (nI t) with ⟨_, _, _, h⟩ | ⟨h, _⟩
    · exact h
    · exact absurd rfl (h t ht)
  obtain ⟨i, _, hr⟩ := n_hasRow (t := t) (by omega) hm em x y z
  unfold fX9_whyPut
  rw [it, obs, if_neg (by decide)]
  rcases n_isRow (t := t) (by omega) hw ew x y z with ⟨h, e⟩ | ⟨h, e⟩
  · rw [e, obs, if_neg (by decide), hr]
    by_cases c : i < m ∧ cm9 (I 70) t i x y z = 0
    · rw [if_pos c, obs, if_neg (by decide)]; exact Or.inr (Or.inl ⟨h, rfl, rfl⟩)
    · rw [if_neg c, obs, if_pos rfl, n_many (by omega), obs, em]
      by_cases c2 : m = 12
      · rw [if_pos (by rw [c2]; rfl)]; exact Or.inr (Or.inr (Or.inl ⟨h, rfl, c2, rfl⟩))
      · rw [if_neg (show ¬ nI m = (12 : Int32) from fun q => c2 (nI_inj (b := 12) q (by omega) (by omega)))]; exact Or.inr (Or.inr (Or.inr ⟨h, rfl, by omega, rfl⟩))
  · rw [e, obs, if_pos rfl]; exact Or.inl ⟨h, rfl⟩
theorem n_whyTake {I : gM} {n t w m : Nat} (hn : n ≤ 4) (en : I 62 17 = nI n) (ht : t < n) (hw : w ≤ 3) (ew : I 72 t = nI w) (hm : m ≤ 12) (em : I 70 (2 + t) = nI m) (x y z : Int32) : (¬ rowOK w x y z ∧ fX9_whyTake (nI t) x y z I = some 1) ∨ (rowOK w x y z ∧ fX9_hasRow (nI t) x y z I = some 0 ∧ fX9_whyTake (nI t) x y z I = some 2) ∨ (rowOK w x y z ∧ fX9_hasRow (nI t) x y z I = some 1 ∧ fX9_whyTake (nI t) x y z I = some (-1)) := by
  have it : fX9_isTable (nI t) I = some 1 := by
    rcases n_isTable hn en (nI t) with ⟨_, _, _, h⟩ | ⟨h, _⟩
    · exact h
    · exact absurd rfl (h t ht)
  obtain ⟨i, _, hr⟩ := n_hasRow (t := t) (by omega) hm em x y z
  unfold fX9_whyTake
  rw [it, obs, if_neg (by decide)]
  rcases n_isRow (t := t) (by omega) hw ew x y z with ⟨h, e⟩ | ⟨h, e⟩
  · rw [e, obs, if_neg (by decide), hr]
    by_cases c : i < m ∧ cm9 (I 70) t i x y z = 0
    · rw [if_pos c, obs, if_neg (by decide)]; exact Or.inr (Or.inr ⟨h, rfl, rfl⟩)
    · rw [if_neg c, obs, if_pos rfl]; exact Or.inr (Or.inl ⟨h, rfl, rfl⟩)
  · rw [e, obs, if_pos rfl]; exact Or.inl ⟨h, rfl⟩
/-- what an act that can be does to the row of numbers -/
def Act9 (n : Nat) (wd w : Nat → Int32) (s a x y z : Int32) (w' : Nat → Int32) : Prop :=
  (s = 0 ∧ ∃ t m i, t < n ∧ a = nI t ∧ m ≤ 11 ∧ w (2 + t) = nI m ∧ rowOK (wd t).toInt.toNat x y z ∧ cl9 w t m x y z i ∧ ¬ (i < m ∧ cm9 w t i x y z = 0) ∧ w' = insW w t m i x y z) ∨
  (s = 1 ∧ ∃ t m i, t < n ∧ a = nI t ∧ m ≤ 12 ∧ w (2 + t) = nI m ∧ rowOK (wd t).toInt.toNat x y z ∧ cl9 w t m x y z i ∧ i < m ∧ cm9 w t i x y z = 0 ∧ w' = delW w t m i) ∨
  (s = 2 ∧ ∃ t, t < n ∧ a = nI t ∧ w 0 ≠ 1 <<< (nI t &&& 31) ∧ w' = fun j => if j = 0 then w 0 ^^^ (1 <<< (nI t &&& 31)) else w j) ∨
  (¬ s = 0 ∧ ¬ s = 1 ∧ ¬ s = 2 ∧ ∃ o, o < 24 ∧ a = nI o ∧ w 1 ≠ a ∧ 0 < n ∧ w' = fun j => if j = 1 then a else w j)
theorem rgNow_1 : rgNow 1 = (0, 23) := rfl
theorem rg70 {j : Nat} : rg 70 j = rgNow j := rfl
theorem rgN_m {t : Nat} (ht : t < 4) : rgNow (2 + t) = (0, 12) := by
  unfold rgNow
  rw [if_neg (by omega), if_pos (by omega)]
theorem rgN_r {j : Nat} (h1 : 6 ≤ j) (h2 : j < 150) : rgNow j = (-1, 99) := by
  unfold rgNow
  rw [if_neg (by omega), if_neg (by omega), if_pos (by omega)]
theorem rgN_t {j : Nat} (h : j = 0 ∨ 151 ≤ j) : rgNow j = top := by
  unfold rgNow
  rw [if_neg (by omega), if_neg (by omega), if_neg (by omega), if_neg (by omega)]
/-- the ranges of a row of numbers -/
def rW (w : Nat → Int32) : Prop := ∀ j, (rgNow j).1 ≤ (w j).toInt ∧ (w j).toInt ≤ (rgNow j).2
theorem rowOK.rg {w : Nat} {x y z : Int32} (h : rowOK w x y z) : (-1 ≤ x.toInt ∧ x.toInt ≤ 99) ∧ (-1 ≤ y.toInt ∧ y.toInt ≤ 99) ∧ (-1 ≤ z.toInt ∧ z.toInt ≤ 99) := by
  obtain ⟨h1, h2, h3⟩ := h
  have m1 : ((-1) : Int32).toInt = -1 := by decide
  have col : ∀ {k : Nat} {y : Int32}, colOK k w y → -1 ≤ y.toInt ∧ y.toInt ≤ 99 := fun {k y} h => by
    by_cases c : k < w
    · have := h.1 c; omega
    · rw [h.2 (by omega), m1]; omega
  exact ⟨by omega, col h2, col h3⟩
theorem rW.ins {w : Nat → Int32} (h : rW w) {t m i : Nat} (ht : t < 4) (hm : m ≤ 11) (hi : i ≤ m) {x y z : Int32} (hr : (-1 ≤ x.toInt ∧ x.toInt ≤ 99) ∧ (-1 ≤ y.toInt ∧ y.toInt ≤ 99) ∧ (-1 ≤ z.toInt ∧ z.toInt ≤ 99)) : rW (insW w t m i x y z) := by
  obtain ⟨hx, hy, hz⟩ := hr
  intro j
  unfold insW
  by_cases c1 : j = 2 + t
  · rw [if_pos c1, c1, rgN_m ht, tnI (by omega)]
    show (0 : Int) ≤ ((m + 1 : Nat) : Int) ∧ ((m + 1 : Nat) : Int) ≤ 12
    omega
  rw [if_neg c1]
  by_cases c2 : j = 6 + 3 * (12 * t + i)
  · rw [if_pos c2, rgN_r (by omega) (by omega)]; exact hx
  rw [if_neg c2]
  by_cases c3 : j = 6 + 3 * (12 * t + i) + 1
  · rw [if_pos c3, rgN_r (by omega) (by omega)]; exact hy
  rw [if_neg c3]
  by_cases c4 : j = 6 + 3 * (12 * t + i) + 2
  · rw [if_pos c4, rgN_r (by omega) (by omega)]; exact hz
  rw [if_neg c4]
  by_cases c5 : 6 + 3 * (12 * t + i) + 3 ≤ j ∧ j < 6 + 3 * (12 * t + m) + 3
  · rw [if_pos c5, rgN_r (by omega) (by omega)]
    have := h (j - 3)
    rw [rgN_r (by omega) (by omega)] at this; exact this
  · rw [if_neg c5]; exact h j
theorem rW.del {w : Nat → Int32} (h : rW w) {t m i : Nat} (ht : t < 4) (hm : m ≤ 12) : rW (delW w t m i) := by
  intro j
  unfold delW
  by_cases c1 : j = 2 + t
  · rw [if_pos c1, c1, rgN_m ht, tnI (by omega)]
    show (0 : Int) ≤ ((m - 1 : Nat) : Int) ∧ ((m - 1 : Nat) : Int) ≤ 12
    omega
  rw [if_neg c1]
  by_cases c5 : 6 + 3 * (12 * t + i) ≤ j ∧ j < 6 + 3 * (12 * t + (m - 1))
  · rw [if_pos c5, rgN_r (by omega) (by omega)]
    have := h (j + 3)
    rw [rgN_r (by omega) (by omega)] at this; exact this
  · rw [if_neg c5]; exact h j
theorem mi_rW {I0 I : gM} (h : MI false I0 I) : rW (I 70) := fun j => h.1 70 j
theorem MI.now {I0 I r : gM} (h : MI false I0 I) (he : ∀ k, k ≠ 70 → r k = I k) (hw : rW (r 70)) : MI false I0 r := h.one rfl he hw
theorem act_rW {n : Nat} {wd w w' : Nat → Int32} {s a x y z : Int32} (h : Act9 n wd w s a x y z w') (hn : n ≤ 4) (hw : rW w) : rW w' := by
  rcases h with ⟨_, t, m, i, h1, h2, h3, h4, h5, h6, h7, rfl⟩ | ⟨_, t, m, i, h1, h2, h3, h4, h5, h6, h7, h8, rfl⟩ | ⟨_, t, h1, h2, h3, rfl⟩ | ⟨_, _, _, o, h1, h2, h3, h4, rfl⟩
  · exact hw.ins (by omega) h3 h6.1 h5.rg
  · exact hw.del (by omega) h3
  · intro j
    dsimp only
    by_cases c : j = 0
    · rw [if_pos c, c]; exact tTop _
    · rw [if_neg c]; exact hw j
  · intro j
    dsimp only
    by_cases c : j = 1
    · rw [if_pos c, c, h2, rgNow_1, tnI (by omega)]
      show (0 : Int) ≤ (o : Int) ∧ (o : Int) ≤ 23
      omega
    · rw [if_neg c]; exact hw j
/-- an act that is not refused -/
theorem n_can {I0 I : gM} (hM : MI false I0 I) {n : Nat} (hn : n ≤ 4) (en : I 62 17 = nI n) {s a x y z : Int32} (e : fX9_whyNot s a x y z I = some (-1)) : ∃ w', Act9 n (I 72) (I 70) s a x y z w' := by
  have tab : ∀ t, t < n → ∃ m w, m ≤ 12 ∧ I 70 (2 + t) = nI m ∧ w ≤ 3 ∧ I 72 t = nI w := fun t ht => by
    obtain ⟨m, m1, m2⟩ := hM.n (k := 70) (j := 2 + t) (hi := 12) (rgN_m (by omega))
    obtain ⟨w, w1, w2⟩ := hM.n (k := 72) (j := t) (hi := 3) rfl
    exact ⟨m, w, m1, m2, w1, w2⟩
  unfold fX9_whyNot at e
  rcases oi e with ⟨c1, e⟩ | ⟨c1, e⟩
  · obtain ⟨r, e1, e2⟩ := ob e
    obtain rfl := Option.some.inj e2
    rcases n_isTable hn en a with ⟨t, t1, t2, t3⟩ | ⟨t1, t3⟩
    · subst t2
      obtain ⟨m, w, m1, m2, w1, w2⟩ := tab t t1
      obtain ⟨i, i1, i2⟩ := n_hasRow (t := t) (by omega) m1 m2 x y z
      rcases n_whyPut hn en t1 w1 w2 m1 m2 x y z with ⟨_, q⟩ | ⟨_, _, q⟩ | ⟨_, _, _, q⟩ | ⟨q1, q2, q3, q⟩
      · rw [e1] at q; exact absurd (Option.some.inj q) (by decide)
      · rw [e1] at q; exact absurd (Option.some.inj q) (by decide)
      · rw [e1] at q; exact absurd (Option.some.inj q) (by decide)
      · refine ⟨_, Or.inl ⟨c1, t, m, i, t1, rfl, by omega, m2, by rw [w2, nIt (by omega)]; exact q1, i1, fun c => ?_, rfl⟩⟩
        rw [i2, if_pos c] at q2
        exact absurd (Option.some.inj q2) (by decide)
    · unfold fX9_whyPut at e1
      rw [t3, obs, if_pos rfl] at e1
      exact absurd (Option.some.inj e1) (by decide)
  rcases oi e with ⟨c2, e⟩ | ⟨c2, e⟩
  · obtain ⟨r, e1, e2⟩ := ob e
    obtain rfl := Option.some.inj e2
    rcases n_isTable hn en a with ⟨t, t1, t2, t3⟩ | ⟨t1, t3⟩
    · subst t2
      obtain ⟨m, w, m1, m2, w1, w2⟩ := tab t t1
      obtain ⟨i, i1, i2⟩ := n_hasRow (t := t) (by omega) m1 m2 x y z
      rcases n_whyTake hn en t1 w1 w2 m1 m2 x y z with ⟨_, q⟩ | ⟨_, _, q⟩ | ⟨q1, q2, q⟩
      · rw [e1] at q; exact absurd (Option.some.inj q) (by decide)
      · rw [e1] at q; exact absurd (Option.some.inj q) (by decide)
      · by_cases c : i < m ∧ cm9 (I 70) t i x y z = 0
        · exact ⟨_, Or.inr (Or.inl ⟨c2, t, m, i, t1, rfl, m1, m2, by rw [w2, nIt (by omega)]; exact q1, i1, c.1, c.2, rfl⟩)⟩
        · rw [i2, if_neg c] at q2
          exact absurd (Option.some.inj q2) (by decide)
    · unfold fX9_whyTake at e1
      rw [t3, obs, if_pos rfl] at e1
      exact absurd (Option.some.inj e1) (by decide)
  rcases oi e with ⟨c3, e⟩ | ⟨c3, e⟩
  · rcases n_isTable hn en a with ⟨t, t1, t2, t3⟩ | ⟨t1, t3⟩
    · rw [t3, obs, if_neg (by decide), L0, rI_n (by omega) (by omega), obs] at e
      rcases oi e with ⟨c4, e⟩ | ⟨c4, e⟩
      · exact absurd (Option.some.inj e) (by decide)
      · exact ⟨_, Or.inr (Or.inr (Or.inl ⟨c3, t, t1, t2, by rw [← t2]; exact c4, rfl⟩))⟩
    · rw [t3, obs, if_pos rfl] at e
      exact absurd (Option.some.inj e) (by decide)
  · rw [n_areTables hn en, obs] at e
    by_cases z0 : n = 0
    · rw [if_pos z0, if_pos rfl] at e
      exact absurd (Option.some.inj e) (by decide)
    · rw [if_neg z0, if_neg (by decide)] at e
      rcases n_in a 0 23 with ⟨h1, h2, h3⟩ | ⟨h1, h3⟩
      · rw [h3, obs, if_neg (by decide), L1, rI_n (by omega) (by omega), obs] at e
        rw [t0i] at h1
        have : (23 : Int32).toInt = 23 := by decide
        rcases oi e with ⟨c4, e⟩ | ⟨c4, e⟩
        · exact absurd (Option.some.inj e) (by decide)
        · exact ⟨_, Or.inr (Or.inr (Or.inr ⟨c1, c2, c3, a.toInt.toNat, by omega, nI_self h1, c4, by omega, rfl⟩))⟩
      · rw [h3, obs, if_pos rfl] at e
        exact absurd (Option.some.inj e) (by decide)
/-- an act that can be is done -/
theorem n_doNow {I0 I : gM} (hM : MI false I0 I) {n : Nat} (hn : n ≤ 4) (en : I 62 17 = nI n) {s a x y z : Int32} {w' : Nat → Int32} (h : Act9 n (I 72) (I 70) s a x y z w') : ∃ v r, fX9_doNow s a x y z I = some (v, r) ∧ MI false I0 r ∧ (∀ k, k ≠ 70 → r k = I k) ∧ r 70 = w' ∧ (s = 0 ∨ s = 1 → ∃ t, t < n ∧ a = nI t ∧ v = w' (2 + t)) ∧ (s = 2 → ∃ t, t < n ∧ a = nI t ∧ ((hs (w' 0) t ∧ v = 1) ∨ (¬ hs (w' 0) t ∧ v = 0))) ∧ (¬ s = 0 → ¬ s = 1 → ¬ s = 2 → v = I 70 1) := by
  have hr := act_rW h hn (mi_rW hM)
  unfold fX9_doNow
  rcases h with ⟨c, t, m, i, h1, h2, h3, h4, h5, h6, h7, rfl⟩ | ⟨c, t, m, i, h1, h2, h3, h4, h5, h6, h7, h8, rfl⟩ | ⟨c, t, h1, h2, h3, rfl⟩ | ⟨c1, c2, c3, o, h1, h2, h3, h4, rfl⟩
  · subst c h2
    obtain ⟨i', r, q1, q2, q3, q4⟩ := n_putsNow (t := t) (by omega) h3 h4 x y z
    obtain rfl : i' = i := by
      obtain ⟨a1, a2, a3⟩ := q1
      obtain ⟨b1, b2, b3⟩ := h6
      rcases (by omega : i' < i ∨ i' = i ∨ i < i') with u | u | u
      · exact absurd (a3 (by omega)) (b2 i' u)
      · exact u
      · exact absurd (b3 (by omega)) (a2 i u)
    rw [if_pos rfl, q2, obs]
    refine ⟨_, _, rfl, hM.now q3 (show rW (r 70) from by rw [q4]; exact hr), q3, q4, fun _ => ⟨t, h1, rfl, ?_⟩, fun q => absurd q (by decide), fun q => absurd rfl q⟩
    show nI (m + 1) = insW (I 70) t m i' x y z (2 + t)
    unfold insW
    rw [if_pos rfl]
  · subst c h2
    obtain ⟨i', e1, q1⟩ := n_countLess (t := t) (by omega) h3 h4 x y z
    obtain rfl : i' = i := by
      obtain ⟨a1, a2, a3⟩ := q1
      obtain ⟨b1, b2, b3⟩ := h6
      rcases (by omega : i' < i ∨ i' = i ∨ i < i') with u | u | u
      · exact absurd (a3 (by omega)) (b2 i' u)
      · exact u
      · exact absurd (b3 (by omega)) (a2 i u)
    obtain ⟨r, q2, q3, q4⟩ := n_takesNow (t := t) (by omega) h3 h4 e1 h7
    rw [if_neg (by decide), if_pos rfl, q2, obs]
    refine ⟨_, _, rfl, hM.now q3 (show rW (r 70) from by rw [q4]; exact hr), q3, q4, fun _ => ⟨t, h1, rfl, ?_⟩, fun q => absurd q (by decide), fun _ q => absurd rfl q⟩
    show nI (m - 1) = delW (I 70) t m i' (2 + t)
    unfold delW
    rw [if_pos rfl]
  · subst c h2
    rw [if_neg (by decide), if_neg (by decide), if_pos rfl, show rI 331 (I 70) 0 = some (I 70 0) from rI_n (a := 0) (by omega) (by omega), obs, show wI I 70 331 0 (I 70 0 ^^^ (1 <<< (nI t &&& 31))) = some _ from wI_n (a := 0) (by omega) (by omega), obs]
    have f1 : ∀ k, k ≠ 70 → g_up I 70 0 (I 70 0 ^^^ (1 <<< (nI t &&& 31))) k = I k := fun k hk => g_up_row hk
    have f2 : g_up I 70 0 (I 70 0 ^^^ (1 <<< (nI t &&& 31))) 70 = fun j => if j = 0 then I 70 0 ^^^ (1 <<< (nI t &&& 31)) else I 70 j := by
      funext j; rw [gu_in]
    generalize g_up I 70 0 (I 70 0 ^^^ (1 <<< (nI t &&& 31))) = r at *
    have f3 : r 70 0 = I 70 0 ^^^ (1 <<< (nI t &&& 31)) := by rw [f2]; exact if_pos rfl
    have Mr : MI false I0 r := hM.now f1 (by rw [f2]; exact hr)
    by_cases u : hs (r 70 0) t
    · rw [n_isUsed1 u, obs, if_neg (by decide)]
      refine ⟨_, _, rfl, Mr, f1, f2, fun q => absurd q (by decide), fun _ => ⟨t, h1, rfl, Or.inl ⟨?_, rfl⟩⟩, fun _ _ q => absurd rfl q⟩
      rw [f3] at u; exact u
    · rw [n_isUsed0 u, obs, if_pos rfl]
      refine ⟨_, _, rfl, Mr, f1, f2, fun q => absurd q (by decide), fun _ => ⟨t, h1, rfl, Or.inr ⟨?_, rfl⟩⟩, fun _ _ q => absurd rfl q⟩
      rw [f3] at u; exact u
  · rw [if_neg c1, if_neg c2, if_neg c3, show rI 331 (I 70) 1 = some (I 70 1) from rI_n (a := 1) (by omega) (by omega), obs, show wI I 70 331 1 a = some _ from wI_n (a := 1) (by omega) (by omega), obs]
    have f1 : ∀ k, k ≠ 70 → g_up I 70 1 a k = I k := fun k hk => g_up_row hk
    have f2 : g_up I 70 1 a 70 = fun j => if j = 1 then a else I 70 j := by funext j; rw [gu_in]
    refine ⟨_, _, rfl, hM.now f1 (by rw [f2]; exact hr), f1, f2, fun q => (q.elim (fun q => absurd q c1) (fun q => absurd q c2)), fun q => absurd q c3, fun _ _ _ => rfl⟩
