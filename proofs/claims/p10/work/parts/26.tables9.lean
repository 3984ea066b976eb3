/-! the reference's tables: what the steps do -/
theorem n_rowAt (t i : Nat) : fX9_rowAt (nI t) (nI i) = some (nI (6 + 3 * (12 * t + i))) := by
  unfold fX9_rowAt
  simp only [L6, L3, L12, nI_mul, nI_add]
theorem n_many {t : Nat} (h : t < 4) (I : gM) : fX9_many (nI t) I = some (I 70 (2 + t)) := by
  unfold fX9_many
  rw [L2, nI_add, rI_n (by omega) (by omega)]; rfl
/-- how a row stands to three numbers -/
def cm9 (w : Nat → Int32) (t i : Nat) (x y z : Int32) : Int32 := if w (6 + 3 * (12 * t + i)) = x then (if w (6 + 3 * (12 * t + i) + 1) = y then w (6 + 3 * (12 * t + i) + 2) - z else w (6 + 3 * (12 * t + i) + 1) - y) else w (6 + 3 * (12 * t + i)) - x
theorem n_compares {t i : Nat} (ht : t < 4) (hi : i < 12) (x y z : Int32) (I : gM) : fX9_compares (nI t) (nI i) x y z I = some (cm9 (I 70) t i x y z) := by
  unfold fX9_compares
  simp only [n_rowAt, obs, L1, L2, nI_add]
  rw [rI_n (by omega) (by omega), rI_n (by omega) (by omega), rI_n (by omega) (by omega)]
  simp only [obs]
  unfold cm9
  by_cases h1 : I 70 (6 + 3 * (12 * t + i)) = x
  · rw [if_pos h1, if_pos h1]
    by_cases h2 : I 70 (6 + 3 * (12 * t + i) + 1) = y
    · rw [if_pos h2, if_pos h2]
    · rw [if_neg h2, if_neg h2]
  · rw [if_neg h1, if_neg h1]
/-- i rows stand ahead of three numbers -/
def cl9 (w : Nat → Int32) (t m : Nat) (x y z : Int32) (i : Nat) : Prop := i ≤ m ∧ (∀ j, j < i → ¬ 0 ≤ cm9 w t j x y z) ∧ (i < m → 0 ≤ cm9 w t i x y z)
theorem n_countLess {t m : Nat} (ht : t < 4) (hm : m ≤ 12) {I : gM} (e : I 70 (2 + t) = nI m) (x y z : Int32) : ∃ i, fX9_countLess (nI t) x y z I = some (nI i) ∧ cl9 (I 70) t m x y z i := by
  have key : T (lX9_countLess_3 (nI t) x y z I (nI 0)) (fun r => ∃ i, r = nI i ∧ cl9 (I 70) t m x y z i) := by
    unfold lX9_countLess_3
    refine t_it (P := fun s => ∃ i, s = nI i ∧ i ≤ m ∧ ∀ j, j < i → ¬ 0 ≤ cm9 (I 70) t j x y z) (μ := fun s => 20 - s.toInt.toNat) (fun s p => ?_) ⟨0, rfl, by omega, fun j h => by omega⟩
    obtain ⟨i, rfl, h1, h2⟩ := p
    rw [n_many ht, obs, e]
    refine t_ite (fun c => ?_) (fun c => ?_)
    · have c := (nI_leI (by omega) (by omega)).mp c
      exact t_ret (show ∃ i', nI i = nI i' ∧ cl9 (I 70) t m x y z i' from ⟨i, rfl, h1, h2, fun h => by omega⟩)
    · have c := mt (nI_leI (a := m) (b := i) (by omega) (by omega)).mpr c
      rw [n_compares ht (by omega), obs]
      refine t_ite (fun c2 => ?_) (fun c2 => ?_)
      · exact t_ret (show ∃ i', nI i = nI i' ∧ cl9 (I 70) t m x y z i' from ⟨i, rfl, h1, h2, fun _ => c2⟩)
      · rw [nI_1]
        refine t_ret (show _ ∧ _ from ⟨⟨i + 1, rfl, by omega, fun j h => ?_⟩, ?_⟩)
        · rcases (by omega : j < i ∨ j = i) with q | q
          · exact h2 j q
          · rw [q]; exact c2
        · show 20 - (nI (i + 1)).toInt.toNat < 20 - (nI i).toInt.toNat
          rw [nIt (by omega), nIt (by omega)]; omega
  obtain ⟨r, e1, i, e2, h⟩ := key
  refine ⟨i, ?_, h⟩
  unfold fX9_countLess
  rw [L0, e1, obs, e2]
theorem n_hasRow {t m : Nat} (ht : t < 4) (hm : m ≤ 12) {I : gM} (e : I 70 (2 + t) = nI m) (x y z : Int32) : ∃ i, cl9 (I 70) t m x y z i ∧ fX9_hasRow (nI t) x y z I = some (if i < m ∧ cm9 (I 70) t i x y z = 0 then 1 else 0) := by
  obtain ⟨i, e1, h⟩ := n_countLess ht hm e x y z
  have h1 := h.1
  refine ⟨i, h, ?_⟩
  unfold fX9_hasRow
  rw [e1, obs, n_many ht, obs, e]
  by_cases c : m ≤ i
  · rw [if_pos ((nI_leI (by omega) (by omega)).mpr c), if_neg (by omega)]
  · rw [if_neg (mt (nI_leI (a := m) (b := i) (by omega) (by omega)).mp c), n_compares ht (by omega), obs]
    by_cases c2 : cm9 (I 70) t i x y z = 0
    · rw [if_pos c2, if_pos ⟨by omega, c2⟩]
    · rw [if_neg c2, if_neg (fun q => c2 q.2)]
/-- a row put in at the i-th place -/
def insW (w : Nat → Int32) (t m i : Nat) (x y z : Int32) : Nat → Int32 := fun a =>
  if a = 2 + t then nI (m + 1) else
  if a = 6 + 3 * (12 * t + i) then x else if a = 6 + 3 * (12 * t + i) + 1 then y else if a = 6 + 3 * (12 * t + i) + 2 then z else
  if 6 + 3 * (12 * t + i) + 3 ≤ a ∧ a < 6 + 3 * (12 * t + m) + 3 then w (a - 3) else w a
theorem n_puts24 {t m i : Nat} (ht : t < 4) (hi : i ≤ m) (hm : m ≤ 11) (I : gM) : T (lX9_putsNow_24 (nI t) (nI i) (nI (6 + 3 * (12 * t + m) - 1), I)) (fun r => (∀ q, q ≠ 70 → r q = I q) ∧ ∀ a, r 70 a = if 6 + 3 * (12 * t + i) + 3 ≤ a ∧ a < 6 + 3 * (12 * t + m) + 3 then I 70 (a - 3) else I 70 a) := by
  unfold lX9_putsNow_24
  refine t_it (P := fun s => ∃ k, s.1 = nI k ∧ 5 + 3 * (12 * t + i) ≤ k ∧ k ≤ 5 + 3 * (12 * t + m) ∧ (∀ q, q ≠ 70 → s.2 q = I q) ∧ ∀ a, s.2 70 a = if k + 3 < a ∧ a ≤ 3 * (12 * t + m) + 8 then I 70 (a - 3) else I 70 a) (μ := fun s => s.1.toInt.toNat) (fun s p => ?_) ⟨_, rfl, by omega, by omega, fun _ _ => rfl, fun a => by rw [if_neg (by omega)]⟩
  obtain ⟨s1, s2⟩ := s
  obtain ⟨k, e1, h1, h2, h3, h4⟩ := p
  dsimp only at e1 h3 h4
  subst e1
  rw [n_rowAt, obs]
  refine t_ite (fun c => ?_) (fun c => ?_)
  · have c := (nI_ltI (by omega) (by omega)).mp c
    refine t_ret (show (∀ q, q ≠ 70 → s2 q = I q) ∧ ∀ a, s2 70 a = _ from ⟨h3, fun a => ?_⟩)
    rw [h4]
    by_cases z : k + 3 < a ∧ a ≤ 3 * (12 * t + m) + 8
    · rw [if_pos z, if_pos (by omega)]
    · rw [if_neg z, if_neg (by omega)]
  · have c := mt (nI_ltI (a := k) (b := 6 + 3 * (12 * t + i)) (by omega) (by omega)).mpr c
    show T ((rI 331 (s2 70) (nI k)).bind _) _
    rw [rI_n (by omega) (by omega), obs]
    show T ((wI s2 70 331 (nI k + 3) (s2 70 k)).bind _) _
    rw [L3, nI_add, wI_n (by omega) (by omega), obs]
    refine t_ret (show _ ∧ _ from ⟨⟨k - 1, by show nI k + (-1) = _; rw [nI_dec (by omega)], by omega, by omega, fun q h => ?_, fun a => ?_⟩, ?_⟩)
    · show g_up s2 70 (k + 3) (s2 70 k) q = I q
      rw [g_up_row h]; exact h3 q h
    · show g_up s2 70 (k + 3) (s2 70 k) 70 a = _
      rw [gu_in, h4, h4]
      by_cases z : a = k + 3
      · rw [if_pos z, if_neg (by omega), if_pos (by omega), show a - 3 = k by omega]
      · rw [if_neg z]
        by_cases z2 : k + 3 < a ∧ a ≤ 3 * (12 * t + m) + 8
        · rw [if_pos z2, if_pos (by omega)]
        · rw [if_neg z2, if_neg (by omega)]
    · show (nI k + (-1)).toInt.toNat < (nI k).toInt.toNat
      rw [nI_dec (by omega), nIt (by omega), nIt (by omega)]; omega
theorem n_putsNow {t m : Nat} (ht : t < 4) (hm : m ≤ 11) {I : gM} (e : I 70 (2 + t) = nI m) (x y z : Int32) : ∃ i r, cl9 (I 70) t m x y z i ∧ fX9_putsNow (nI t) x y z I = some (nI (m + 1), r) ∧ (∀ q, q ≠ 70 → r q = I q) ∧ r 70 = insW (I 70) t m i x y z := by
  obtain ⟨i, e1, h⟩ := n_countLess ht (by omega) e x y z
  have h1 := h.1
  obtain ⟨r, er, p1, p2⟩ := n_puts24 ht h1 hm I
  refine ⟨i, g_up (g_up (g_up (g_up r 70 (6 + 3 * (12 * t + i)) x) 70 (6 + 3 * (12 * t + i) + 1) y) 70 (6 + 3 * (12 * t + i) + 2) z) 70 (2 + t) (nI (m + 1)), h, ?_, fun q hq => ?_, ?_⟩
  · have e5 : r 70 (2 + t) = nI m := by rw [p2, if_neg (by omega), e]
    unfold fX9_putsNow
    rw [e1, obs, n_many ht, obs, e, n_rowAt, obs, L1, nI_sub (by omega), er, obs, n_rowAt, obs, wI_n (by omega) (by omega), obs, obs, nI_add, wI_n (by omega) (by omega), obs, obs, L2, nI_add, nI_add, wI_n (by omega) (by omega), obs, rI_n (by omega) (by omega), obs]
    rw [g_up_ne (Or.inr (by omega)), g_up_ne (Or.inr (by omega)), g_up_ne (Or.inr (by omega)), e5, nI_add, wI_n (by omega) (by omega), obs, n_many ht, obs, g_up_self]
  · rw [g_up_row hq, g_up_row hq, g_up_row hq, g_up_row hq, p1 q hq]
  · funext a
    unfold insW
    rw [gu_in, gu_in, gu_in, gu_in, p2]
    by_cases c1 : a = 2 + t
    · rw [if_pos c1, if_pos c1]
    · rw [if_neg c1, if_neg c1]
      by_cases c2 : a = 6 + 3 * (12 * t + i) + 2
      · rw [if_pos c2, if_neg (by omega), if_neg (by omega), if_pos c2]
      · rw [if_neg c2]
        by_cases c3 : a = 6 + 3 * (12 * t + i) + 1
        · rw [if_pos c3, if_neg (by omega), if_pos c3]
        · rw [if_neg c3]
          by_cases c4 : a = 6 + 3 * (12 * t + i)
          · rw [if_pos c4, if_pos c4]
          · rw [if_neg c4, if_neg c4, if_neg c3, if_neg c2]
/-- the i-th row taken away -/
def delW (w : Nat → Int32) (t m i : Nat) : Nat → Int32 := fun a =>
  if a = 2 + t then nI (m - 1) else if 6 + 3 * (12 * t + i) ≤ a ∧ a < 6 + 3 * (12 * t + (m - 1)) then w (a + 3) else w a
theorem n_takes19 {t m i : Nat} (ht : t < 4) (hi : i < m) (hm : m ≤ 12) (I : gM) (e : I 70 (2 + t) = nI m) : T (lX9_takesNow_19 (nI t) (nI (6 + 3 * (12 * t + i)), I)) (fun r => (∀ q, q ≠ 70 → r q = I q) ∧ ∀ a, r 70 a = if 6 + 3 * (12 * t + i) ≤ a ∧ a < 6 + 3 * (12 * t + (m - 1)) then I 70 (a + 3) else I 70 a) := by
  unfold lX9_takesNow_19
  refine t_it (P := fun s => ∃ k, s.1 = nI k ∧ 6 + 3 * (12 * t + i) ≤ k ∧ k ≤ 6 + 3 * (12 * t + (m - 1)) ∧ (∀ q, q ≠ 70 → s.2 q = I q) ∧ ∀ a, s.2 70 a = if 6 + 3 * (12 * t + i) ≤ a ∧ a < k then I 70 (a + 3) else I 70 a) (μ := fun s => 200 - s.1.toInt.toNat) (fun s p => ?_) ⟨_, rfl, by omega, by omega, fun _ _ => rfl, fun a => by rw [if_neg (by omega)]⟩
  obtain ⟨s1, s2⟩ := s
  obtain ⟨k, e1, h1, h2, h3, h4⟩ := p
  dsimp only at e1 h3 h4
  subst e1
  show T ((fX9_many (nI t) s2).bind _) _
  rw [n_many ht, obs, h4, if_neg (by omega), e, L1, nI_sub (by omega), n_rowAt, obs]
  refine t_ite (fun c => ?_) (fun c => ?_)
  · have c := (nI_leI (by omega) (by omega)).mp c
    refine t_ret (show (∀ q, q ≠ 70 → s2 q = I q) ∧ ∀ a, s2 70 a = _ from ⟨h3, fun a => ?_⟩)
    rw [h4, show k = 6 + 3 * (12 * t + (m - 1)) by omega]
  · have c := mt (nI_leI (b := k) (a := 6 + 3 * (12 * t + (m - 1))) (by omega) (by omega)).mpr c
    show T ((rI 331 (s2 70) (nI k + 3)).bind _) _
    rw [L3, nI_add, rI_n (by omega) (by omega), obs]
    show T ((wI s2 70 331 (nI k) (s2 70 (k + 3))).bind _) _
    rw [wI_n (by omega) (by omega), obs]
    refine t_ret (show _ ∧ _ from ⟨⟨k + 1, nI_1 k, by omega, by omega, fun q h => ?_, fun a => ?_⟩, ?_⟩)
    · show g_up s2 70 k (s2 70 (k + 3)) q = I q
      rw [g_up_row h]; exact h3 q h
    · show g_up s2 70 k (s2 70 (k + 3)) 70 a = _
      rw [gu_in, h4, h4]
      by_cases z : a = k
      · rw [if_pos z, if_neg (by omega), if_pos (by omega), z]
      · rw [if_neg z]
        by_cases z2 : 6 + 3 * (12 * t + i) ≤ a ∧ a < k
        · rw [if_pos z2, if_pos (by omega)]
        · rw [if_neg z2, if_neg (by omega)]
    · show 200 - (nI k + 1).toInt.toNat < 200 - (nI k).toInt.toNat
      rw [nI_1, nIt (by omega), nIt (by omega)]; omega
theorem n_takesNow {t m : Nat} (ht : t < 4) (hm : m ≤ 12) {I : gM} (e : I 70 (2 + t) = nI m) {x y z : Int32} {i : Nat} (e1 : fX9_countLess (nI t) x y z I = some (nI i)) (hi : i < m) : ∃ r, fX9_takesNow (nI t) x y z I = some (nI (m - 1), r) ∧ (∀ q, q ≠ 70 → r q = I q) ∧ r 70 = delW (I 70) t m i := by
  obtain ⟨r, er, p1, p2⟩ := n_takes19 ht hi hm I e
  refine ⟨g_up r 70 (2 + t) (nI (m - 1)), ?_, fun q hq => ?_, ?_⟩
  · have e5 : r 70 (2 + t) = nI m := by rw [p2, if_neg (by omega), e]
    unfold fX9_takesNow
    rw [e1, obs, n_rowAt, obs, er, obs, L2, nI_add, rI_n (by omega) (by omega), obs, e5, L1, nI_sub (by omega), wI_n (by omega) (by omega), obs, n_many ht, obs, g_up_self]
  · rw [g_up_row hq, p1 q hq]
  · funext a
    unfold delW
    rw [gu_in, p2]
