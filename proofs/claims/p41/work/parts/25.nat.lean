section P_25_nat
/-! places and counts as natural numbers -/
theorem nI_mul (a b : Nat) : nI a * nI b = nI (a * b) := (Int32.ofNat_mul a b).symm
theorem nI_sub {a b : Nat} (h : b ≤ a) : nI a - nI b = nI (a - b) := (Int32.ofNat_sub a b h).symm
theorem nI_dec {a : Nat} (h : 1 ≤ a) : nI a + (-1) = nI (a - 1) := by
  rw [← nI_sub h]; show nI a + (-1) = nI a - 1; rw [Int32.sub_eq_add_neg]
theorem L0 : (0 : Int32) = nI 0 := rfl
theorem L1 : (1 : Int32) = nI 1 := rfl
theorem L2 : (2 : Int32) = nI 2 := rfl
theorem L3 : (3 : Int32) = nI 3 := rfl
theorem L4 : (4 : Int32) = nI 4 := rfl
theorem L5 : (5 : Int32) = nI 5 := rfl
theorem L6 : (6 : Int32) = nI 6 := rfl
theorem L12 : (12 : Int32) = nI 12 := rfl
theorem L15 : (15 : Int32) = nI 15 := rfl
theorem L60 : (60 : Int32) = nI 60 := rfl
theorem L40 : (40 : Int32) = nI 40 := rfl
theorem L100 : (100 : Int32) = nI 100 := rfl
theorem L150 : (150 : Int32) = nI 150 := rfl
theorem L151 : (151 : Int32) = nI 151 := rfl
theorem L180 : (180 : Int32) = nI 180 := rfl
theorem L331 : (331 : Int32) = nI 331 := rfl
theorem L400 : (400 : Int32) = nI 400 := rfl
theorem L13240 : (13240 : Int32) = nI 13240 := rfl
theorem L20736 : (20736 : Int32) = nI 20736 := rfl
theorem nIt {n : Nat} (h : n < 2 ^ 31) : (nI n).toInt.toNat = n := by rw [tnI h]; rfl
theorem rI_n {n a : Nat} {f : Nat → Int32} (h : a < n) (hn : n < 2 ^ 31) : rI n f (nI a) = some (f a) := by
  have e := tnI (n := a) (by omega)
  unfold rI
  rw [if_pos (by omega), e]; rfl
theorem wI_n {I : gM} {k n a : Nat} {v : Int32} (h : a < n) (hn : n < 2 ^ 31) : wI I k n (nI a) v = some (g_up I k a v) := by
  have e := tnI (n := a) (by omega)
  unfold wI
  rw [if_pos (by omega), e]; rfl
theorem pU_n {α : Type} {I : Nat → Nat → α} {k j : Nat} {v : α} : pU I k j v = some (g_up I k j v) := rfl
theorem obs {α β : Type} {v : α} {f : α → Option β} : (some v).bind f = f v := rfl
theorem t_eq {α : Type} {o : Option α} {v : α} {Q : α → Prop} (e : o = some v) (h : Q v) : T o Q := ⟨v, e, h⟩
theorem t_be {α β : Type} {o : Option α} {v : α} {f : α → Option β} {Q : β → Prop} (e : o = some v) (h : T (f v) Q) : T (o.bind f) Q := by rw [e]; exact h
theorem gu_in {I : gM} {k j j' : Nat} {v : Int32} : g_up I k j v k j' = if j' = j then v else I k j' := by
  by_cases h : j' = j
  · rw [if_pos h, h, g_up_self]
  · rw [if_neg h, g_up_ne (Or.inr h)]
theorem nI_inj {a b : Nat} (e : nI a = nI b) (ha : a < 2 ^ 31) (hb : b < 2 ^ 31) : a = b := (nI_eq ha hb).mp e
/-- a place whose range begins at nought holds a count -/
theorem MI.n {b : Bool} {I0 I : gM} (h : MI b I0 I) {k j : Nat} {hi : Nat} (e : rg k j = (0, (hi : Int))) : ∃ n : Nat, n ≤ hi ∧ I k j = nI n := by
  have q := h.at e
  refine ⟨(I k j).toInt.toNat, by omega, ?_⟩
  rw [← iI_n, Int.toNat_of_nonneg q.1]; exact iI_self _
/-- one cell changed -/
theorem MI.one {b : Bool} {I0 I r : gM} (h : MI b I0 I) {k : Nat} (hk : Nat.ble 62 k = !b) (he : ∀ q, q ≠ k → r q = I q) (hr : ∀ j, (rg k j).1 ≤ (r k j).toInt ∧ (r k j).toInt ≤ (rg k j).2) : MI b I0 r := by
  refine ⟨fun k' j' => ?_, fun k' q => ?_⟩
  · by_cases c : k' = k
    · rw [c]; exact hr j'
    · rw [he k' c]; exact h.1 k' j'
  · rw [he k' (fun z => by subst z; rw [hk] at q; cases b <;> cases q)]; exact h.2 k' q
/-- the number of an int that is nought or more -/
theorem nI_self {x : Int32} (h : 0 ≤ x.toInt) : x = nI x.toInt.toNat := by
  rw [← iI_n, Int.toNat_of_nonneg h]; exact iI_self _
theorem nI_range {n : Nat} (h : n < 2 ^ 31) : 0 ≤ (nI n).toInt ∧ (nI n).toInt = n := by rw [tnI h]; omega
theorem nI_s1 {a : Nat} (h : 1 ≤ a) : nI a - 1 = nI (a - 1) := nI_sub h
theorem a12 (c j : Nat) : (12 : Int32) * nI c + nI j = nI (12 * c + j) := by rw [L12, nI_mul, nI_add]
theorem a5 (c j : Nat) : (5 : Int32) * nI c + nI j = nI (5 * c + j) := by rw [L5, nI_mul, nI_add]
theorem a4 (c j : Nat) : (4 : Int32) * nI c + nI j = nI (4 * c + j) := by rw [L4, nI_mul, nI_add]
theorem a3 (c j : Nat) : (3 : Int32) * nI c + nI j = nI (3 * c + j) := by rw [L3, nI_mul, nI_add]
theorem a2 (j : Nat) : (2 : Int32) + nI j = nI (2 + j) := by rw [L2, nI_add]
/-- some cells changed -/
theorem MI.cells {b : Bool} {I0 I r : gM} (h : MI b I0 I) (hc : ∀ q, r q = I q ∨ (Nat.ble 62 q = !b ∧ ∀ j, (rg q j).1 ≤ (r q j).toInt ∧ (r q j).toInt ≤ (rg q j).2)) : MI b I0 r := by
  refine ⟨fun k' j' => ?_, fun k' q => ?_⟩
  · rcases hc k' with c | c
    · rw [c]; exact h.1 k' j'
    · exact c.2 j'
  · rcases hc k' with c | c
    · rw [c]; exact h.2 k' q
    · rw [c.1] at q; cases b <;> cases q
theorem t_nx {σ ρ : Type} {P : σ → Prop} {n : Nat} {μ : σ → Nat} {Q : ρ → Prop} {s' : σ} (h : P s') (m : μ s' < n) : T (some (.inl s') : Option (σ ⊕ ρ)) (LQ P n μ Q) := t_ret ⟨h, m⟩
end P_25_nat
section P_26_tables9
/-! the reference's tables: what the steps do -/
theorem n_rowAt (t i : Nat) : fX9_rowAt (nI t) (nI i) = some (nI (6 + 3 * (12 * t + i))) := by
  unfold fX9_rowAt
  simp only [L6, L3, L12, nI_mul, nI_add]
theorem n_many {t : Nat} (h : t < 4) (I : gM) : fX9_many (nI t) I = some (I 70 (2 + t)) := by
  unfold fX9_many
  rw [L2, nI_add, rI_n (by omega) (by omega)]; rfl
/-- how a row stands to three numbers -/
def cm9 (w : Nat → Int32) (t i : Nat) (x y z : Int32) : Int32 := if w (6 + 3 * (12 * t + i)) = x then (if w (6 + 3 * (12 * t + i) + 1) = y then w (6 + 3 * (12 * t + i) + 2) - z else w (6 + 3 * (12 * t + i) + 1) - y) else w (6 + 3 * (12 * t + i)) - x
theorem n_compares {t i : Nat} (ht : t < 4) (hi : i < 12) (x y z : Int32) (I : gM) : fX9_compares (nI t) (nI i) x y z I = some (cm9 (I 70) t i x y z) := by
  unfold fX9_compares
  simp only [n_rowAt, obs, L1, L2, nI_add]
  rw [rI_n (by omega) (by omega), rI_n (by omega) (by omega), rI_n (by omega) (by omega)]
  simp only [obs]
  unfold cm9
  by_cases h1 : I 70 (6 + 3 * (12 * t + i)) = x
  · rw [if_pos h1, if_pos h1]
    by_cases h2 : I 70 (6 + 3 * (12 * t + i) + 1) = y
    · rw [if_pos h2, if_pos h2]
    · rw [if_neg h2, if_neg h2]
  · rw [if_neg h1, if_neg h1]
/-- i rows stand ahead of three numbers -/
def cl9 (w : Nat → Int32) (t m : Nat) (x y z : Int32) (i : Nat) : Prop := i ≤ m ∧ (∀ j, j < i → ¬ 0 ≤ cm9 w t j x y z) ∧ (i < m → 0 ≤ cm9 w t i x y z)
theorem n_countLess {t m : Nat} (ht : t < 4) (hm : m ≤ 12) {I : gM} (e : I 70 (2 + t) = nI m) (x y z : Int32) : ∃ i, fX9_countLess (nI t) x y z I = some (nI i) ∧ cl9 (I 70) t m x y z i := by
  have key : T (lX9_countLess_3 (nI t) x y z I (nI 0)) (fun r => ∃ i, r = nI i ∧ cl9 (I 70) t m x y z i) := by
    unfold lX9_countLess_3
    refine t_it (P := fun s => ∃ i, s = nI i ∧ i ≤ m ∧ ∀ j, j < i → ¬ 0 ≤ cm9 (I 70) t j x y z) (μ := fun s => 20 - s.toInt.toNat) (fun s p => ?_) ⟨0, rfl, by omega, fun j h => by omega⟩
    obtain ⟨i, rfl, h1, h2⟩ := p
    rw [n_many ht, obs, e]
    refine t_ite (fun c => ?_) (fun c => ?_)
    · have c := (nI_leI (by omega) (by omega)).mp c
      exact t_ret (show ∃ i', nI i = nI i' ∧ cl9 (I 70) t m x y z i' from ⟨i, rfl, h1, h2, fun h => by omega⟩)
    · have c := mt (nI_leI (a := m) (b := i) (by omega) (by omega)).mpr c
      rw [n_compares ht (by omega), obs]
      refine t_ite (fun c2 => ?_) (fun c2 => ?_)
      · exact t_ret (show ∃ i', nI i = nI i' ∧ cl9 (I 70) t m x y z i' from ⟨i, rfl, h1, h2, fun _ => c2⟩)
      · rw [nI_1]
        refine t_ret (show _ ∧ _ from ⟨⟨i + 1, rfl, by omega, fun j h => ?_⟩, ?_⟩)
        · rcases (by omega : j < i ∨ j = i) with q | q
          · exact h2 j q
          · rw [q]; exact c2
        · show 20 - (nI (i + 1)).toInt.toNat < 20 - (nI i).toInt.toNat
          rw [nIt (by omega), nIt (by omega)]; omega
  obtain ⟨r, e1, i, e2, h⟩ := key
  refine ⟨i, ?_, h⟩
  unfold fX9_countLess
  rw [L0, e1, obs, e2]
theorem n_hasRow {t m : Nat} (ht : t < 4) (hm : m ≤ 12) {I : gM} (e : I 70 (2 + t) = nI m) (x y z : Int32) : ∃ i, cl9 (I 70) t m x y z i ∧ fX9_hasRow (nI t) x y z I = some (if i < m ∧ cm9 (I 70) t i x y z = 0 then 1 else 0) := by
  obtain ⟨i, e1, h⟩ := n_countLess ht hm e x y z
  have h1 := h.1
  refine ⟨i, h, ?_⟩
  unfold fX9_hasRow
  rw [e1, obs, n_many ht, obs, e]
  by_cases c : m ≤ i
  · rw [if_pos ((nI_leI (by omega) (by omega)).mpr c), if_neg (by omega)]
  · rw [if_neg (mt (nI_leI (a := m) (b := i) (by omega) (by omega)).mp c), n_compares ht (by omega), obs]
    by_cases c2 : cm9 (I 70) t i x y z = 0
    · rw [if_pos c2, if_pos ⟨by omega, c2⟩]
    · rw [if_neg c2, if_neg (fun q => c2 q.2)]
/-- a row put in at the i-th place -/
def insW (w : Nat → Int32) (t m i : Nat) (x y z : Int32) : Nat → Int32 := fun a =>
  if a = 2 + t then nI (m + 1) else
  if a = 6 + 3 * (12 * t + i) then x else if a = 6 + 3 * (12 * t + i) + 1 then y else if a = 6 + 3 * (12 * t + i) + 2 then z else
  if 6 + 3 * (12 * t + i) + 3 ≤ a ∧ a < 6 + 3 * (12 * t + m) + 3 then w (a - 3) else w a
theorem n_puts24 {t m i : Nat} (ht : t < 4) (hi : i ≤ m) (hm : m ≤ 11) (I : gM) : T (lX9_putsNow_24 (nI t) (nI i) (nI (6 + 3 * (12 * t + m) - 1), I)) (fun r => (∀ q, q ≠ 70 → r q = I q) ∧ ∀ a, r 70 a = if 6 + 3 * (12 * t + i) + 3 ≤ a ∧ a < 6 + 3 * (12 * t + m) + 3 then I 70 (a - 3) else I 70 a) := by
  unfold lX9_putsNow_24
  refine t_it (P := fun s => ∃ k, s.1 = nI k ∧ 5 + 3 * (12 * t + i) ≤ k ∧ k ≤ 5 + 3 * (12 * t + m) ∧ (∀ q, q ≠ 70 → s.2 q = I q) ∧ ∀ a, s.2 70 a = if k + 3 < a ∧ a ≤ 3 * (12 * t + m) + 8 then I 70 (a - 3) else I 70 a) (μ := fun s => s.1.toInt.toNat) (fun s p => ?_) ⟨_, rfl, by omega, by omega, fun _ _ => rfl, fun a => by rw [if_neg (by omega)]⟩
  obtain ⟨s1, s2⟩ := s
  obtain ⟨k, e1, h1, h2, h3, h4⟩ := p
  dsimp only at e1 h3 h4
  subst e1
  rw [n_rowAt, obs]
  refine t_ite (fun c => ?_) (fun c => ?_)
  · have c := (nI_ltI (by omega) (by omega)).mp c
    refine t_ret (show (∀ q, q ≠ 70 → s2 q = I q) ∧ ∀ a, s2 70 a = _ from ⟨h3, fun a => ?_⟩)
    rw [h4]
    by_cases z : k + 3 < a ∧ a ≤ 3 * (12 * t + m) + 8
    · rw [if_pos z, if_pos (by omega)]
    · rw [if_neg z, if_neg (by omega)]
  · have c := mt (nI_ltI (a := k) (b := 6 + 3 * (12 * t + i)) (by omega) (by omega)).mpr c
    show T ((rI 331 (s2 70) (nI k)).bind _) _
    rw [rI_n (by omega) (by omega), obs]
    show T ((wI s2 70 331 (nI k + 3) (s2 70 k)).bind _) _
    rw [L3, nI_add, wI_n (by omega) (by omega), obs]
    refine t_ret (show _ ∧ _ from ⟨⟨k - 1, by show nI k + (-1) = _; rw [nI_dec (by omega)], by omega, by omega, fun q h => ?_, fun a => ?_⟩, ?_⟩)
    · show g_up s2 70 (k + 3) (s2 70 k) q = I q
      rw [g_up_row h]; exact h3 q h
    · show g_up s2 70 (k + 3) (s2 70 k) 70 a = _
      rw [gu_in, h4, h4]
      by_cases z : a = k + 3
      · rw [if_pos z, if_neg (by omega), if_pos (by omega), show a - 3 = k by omega]
      · rw [if_neg z]
        by_cases z2 : k + 3 < a ∧ a ≤ 3 * (12 * t + m) + 8
        · rw [if_pos z2, if_pos (by omega)]
        · rw [if_neg z2, if_neg (by omega)]
    · show (nI k + (-1)).toInt.toNat < (nI k).toInt.toNat
      rw [nI_dec (by omega), nIt (by omega), nIt (by omega)]; omega
theorem n_putsNow {t m : Nat} (ht : t < 4) (hm : m ≤ 11) {I : gM} (e : I 70 (2 + t) = nI m) (x y z : Int32) : ∃ i r, cl9 (I 70) t m x y z i ∧ fX9_putsNow (nI t) x y z I = some (nI (m + 1), r) ∧ (∀ q, q ≠ 70 → r q = I q) ∧ r 70 = insW (I 70) t m i x y z := by
  obtain ⟨i, e1, h⟩ := n_countLess ht (by omega) e x y z
  have h1 := h.1
  obtain ⟨r, er, p1, p2⟩ := n_puts24 ht h1 hm I
  refine ⟨i, g_up (g_up (g_up (g_up r 70 (6 + 3 * (12 * t + i)) x) 70 (6 + 3 * (12 * t + i) + 1) y) 70 (6 + 3 * (12 * t + i) + 2) z) 70 (2 + t) (nI (m + 1)), h, ?_, fun q hq => ?_, ?_⟩
  · have e5 : r 70 (2 + t) = nI m := by rw [p2, if_neg (by omega), e]
    unfold fX9_putsNow
    rw [e1, obs, n_many ht, obs, e, n_rowAt, obs, L1, nI_sub (by omega), er, obs, n_rowAt, obs, wI_n (by omega) (by omega), obs, obs, nI_add, wI_n (by omega) (by omega), obs, obs, L2, nI_add, nI_add, wI_n (by omega) (by omega), obs, rI_n (by omega) (by omega), obs]
    rw [g_up_ne (Or.inr (by omega)), g_up_ne (Or.inr (by omega)), g_up_ne (Or.inr (by omega)), e5, nI_add, wI_n (by omega) (by omega), obs, n_many ht, obs, g_up_self]
  · rw [g_up_row hq, g_up_row hq, g_up_row hq, g_up_row hq, p1 q hq]
  · funext a
    unfold insW
    rw [gu_in, gu_in, gu_in, gu_in, p2]
    by_cases c1 : a = 2 + t
    · rw [if_pos c1, if_pos c1]
    · rw [if_neg c1, if_neg c1]
      by_cases c2 : a = 6 + 3 * (12 * t + i) + 2
      · rw [if_pos c2, if_neg (by omega), if_neg (by omega), if_pos c2]
      · rw [if_neg c2]
        by_cases c3 : a = 6 + 3 * (12 * t + i) + 1
        · rw [if_pos c3, if_neg (by omega), if_pos c3]
        · rw [if_neg c3]
          by_cases c4 : a = 6 + 3 * (12 * t + i)
          · rw [if_pos c4, if_pos c4]
          · rw [if_neg c4, if_neg c4, if_neg c3, if_neg c2]
/-- the i-th row taken away -/
def delW (w : Nat → Int32) (t m i : Nat) : Nat → Int32 := fun a =>
  if a = 2 + t then nI (m - 1) else if 6 + 3 * (12 * t + i) ≤ a ∧ a < 6 + 3 * (12 * t + (m - 1)) then w (a + 3) else w a
theorem n_takes19 {t m i : Nat} (ht : t < 4) (hi : i < m) (hm : m ≤ 12) (I : gM) (e : I 70 (2 + t) = nI m) : T (lX9_takesNow_19 (nI t) (nI (6 + 3 * (12 * t + i)), I)) (fun r => (∀ q, q ≠ 70 → r q = I q) ∧ ∀ a, r 70 a = if 6 + 3 * (12 * t + i) ≤ a ∧ a < 6 + 3 * (12 * t + (m - 1)) then I 70 (a + 3) else I 70 a) := by
  unfold lX9_takesNow_19
  refine t_it (P := fun s => ∃ k, s.1 = nI k ∧ 6 + 3 * (12 * t + i) ≤ k ∧ k ≤ 6 + 3 * (12 * t + (m - 1)) ∧ (∀ q, q ≠ 70 → s.2 q = I q) ∧ ∀ a, s.2 70 a = if 6 + 3 * (12 * t + i) ≤ a ∧ a < k then I 70 (a + 3) else I 70 a) (μ := fun s => 200 - s.1.toInt.toNat) (fun s p => ?_) ⟨_, rfl, by omega, by omega, fun _ _ => rfl, fun a => by rw [if_neg (by omega)]⟩
  obtain ⟨s1, s2⟩ := s
  obtain ⟨k, e1, h1, h2, h3, h4⟩ := p
  dsimp only at e1 h3 h4
  subst e1
  show T ((fX9_many (nI t) s2).bind _) _
  rw [n_many ht, obs, h4, if_neg (by omega), e, L1, nI_sub (by omega), n_rowAt, obs]
  refine t_ite (fun c => ?_) (fun c => ?_)
  · have c := (nI_leI (by omega) (by omega)).mp c
    refine t_ret (show (∀ q, q ≠ 70 → s2 q = I q) ∧ ∀ a, s2 70 a = _ from ⟨h3, fun a => ?_⟩)
    rw [h4, show k = 6 + 3 * (12 * t + (m - 1)) by omega]
  · have c := mt (nI_leI (b := k) (a := 6 + 3 * (12 * t + (m - 1))) (by omega) (by omega)).mpr c
    show T ((rI 331 (s2 70) (nI k + 3)).bind _) _
    rw [L3, nI_add, rI_n (by omega) (by omega), obs]
    show T ((wI s2 70 331 (nI k) (s2 70 (k + 3))).bind _) _
    rw [wI_n (by omega) (by omega), obs]
    refine t_ret (show _ ∧ _ from ⟨⟨k + 1, nI_1 k, by omega, by omega, fun q h => ?_, fun a => ?_⟩, ?_⟩)
    · show g_up s2 70 k (s2 70 (k + 3)) q = I q
      rw [g_up_row h]; exact h3 q h
    · show g_up s2 70 k (s2 70 (k + 3)) 70 a = _
      rw [gu_in, h4, h4]
      by_cases z : a = k
      · rw [if_pos z, if_neg (by omega), if_pos (by omega), z]
      · rw [if_neg z]
        by_cases z2 : 6 + 3 * (12 * t + i) ≤ a ∧ a < k
        · rw [if_pos z2, if_pos (by omega)]
        · rw [if_neg z2, if_neg (by omega)]
    · show 200 - (nI k + 1).toInt.toNat < 200 - (nI k).toInt.toNat
      rw [nI_1, nIt (by omega), nIt (by omega)]; omega
theorem n_takesNow {t m : Nat} (ht : t < 4) (hm : m ≤ 12) {I : gM} (e : I 70 (2 + t) = nI m) {x y z : Int32} {i : Nat} (e1 : fX9_countLess (nI t) x y z I = some (nI i)) (hi : i < m) : ∃ r, fX9_takesNow (nI t) x y z I = some (nI (m - 1), r) ∧ (∀ q, q ≠ 70 → r q = I q) ∧ r 70 = delW (I 70) t m i := by
  obtain ⟨r, er, p1, p2⟩ := n_takes19 ht hi hm I e
  refine ⟨g_up r 70 (2 + t) (nI (m - 1)), ?_, fun q hq => ?_, ?_⟩
  · have e5 : r 70 (2 + t) = nI m := by rw [p2, if_neg (by omega), e]
    unfold fX9_takesNow
    rw [e1, obs, n_rowAt, obs, er, obs, L2, nI_add, rI_n (by omega) (by omega), obs, e5, L1, nI_sub (by omega), wI_n (by omega) (by omega), obs, n_many ht, obs, g_up_self]
  · rw [g_up_row hq, p1 q hq]
  · funext a
    unfold delW
    rw [gu_in, p2]
end P_26_tables9
section P_27a_join9
/-! the reference's join: letters, columns, keys -/
theorem n_has (x l : Int32) : fX9_has x l = some (if (x >>> (l &&& 31)) &&& 1 = 1 then 1 else 0) := by
  unfold fX9_has
  by_cases h : (x >>> (l &&& 31)) &&& 1 = 1
  · rw [if_pos h, if_pos h]
  · rw [if_neg h, if_neg h]
/-- a bit of a set -/
def hs (x : Int32) (l : Nat) : Prop := (x >>> (nI l &&& 31)) &&& 1 = 1
theorem n_has1 {x : Int32} {l : Nat} (h : hs x l) : fX9_has x (nI l) = some 1 := by rw [n_has]; exact congrArg some (if_pos h)
theorem n_has0 {x : Int32} {l : Nat} (h : ¬ hs x l) : fX9_has x (nI l) = some 0 := by rw [n_has]; exact congrArg some (if_neg h)
theorem bO_0 : bO 0 = some 0 := rfl
theorem bO_1 : bO 1 = some 1 := rfl
theorem n_isUsed1 {I : gM} {t : Nat} (h : hs (I 70 0) t) : fX9_isUsed (nI t) I = some 1 := by
  unfold fX9_isUsed
  rw [L0, rI_n (by omega) (by omega), obs, n_has1 h, obs, bO_1, obs]
theorem n_isUsed0 {I : gM} {t : Nat} (h : ¬ hs (I 70 0) t) : fX9_isUsed (nI t) I = some 0 := by
  unfold fX9_isUsed
  rw [show rI 331 (I 70) 0 = some (I 70 0) from rI_n (a := 0) (by omega) (by omega), obs, n_has0 h, obs, bO_0, obs]
/-- where a letter stands in a table, -1: nowhere -/
def CO (w : Nat) (lt : Nat → Int32) (l : Int32) (r : Int32) : Prop := (∃ i, i < w ∧ r = nI i ∧ lt i = l ∧ ∀ c, c < i → lt c ≠ l) ∨ (r = -1 ∧ ∀ c, c < w → lt c ≠ l)
theorem nI_m1 {i : Nat} (h : i < 2 ^ 31) : nI i ≠ -1 := fun e => by
  have := congrArg Int32.toInt e
  rw [tnI h] at this
  have : ((-1) : Int32).toInt = -1 := by decide
  omega
theorem n_columnOf {I : gM} {t w : Nat} (ht : t < 4) (hw : w ≤ 3) (e : I 72 t = nI w) (l : Int32) : ∃ r, fX9_columnOf (nI t) l I = some r ∧ CO w (fun c => I 73 (3 * t + c)) l r := by
  have key : T (lX9_columnOf_2 (nI t) l I (nI 0)) (Sum.elim (fun r => ∃ i, i < w ∧ r = nI i ∧ I 73 (3 * t + i) = l ∧ ∀ c, c < i → I 73 (3 * t + c) ≠ l) (fun _ : Unit => ∀ c, c < w → I 73 (3 * t + c) ≠ l)) := by
    unfold lX9_columnOf_2
    refine t_it (P := fun s => ∃ i, s = nI i ∧ i ≤ w ∧ ∀ c, c < i → I 73 (3 * t + c) ≠ l) (μ := fun s => 20 - s.toInt.toNat) (fun s p => ?_) ⟨0, rfl, by omega, fun c h => by omega⟩
    obtain ⟨i, rfl, h1, h2⟩ := p
    rw [rI_n (by omega) (by omega), obs, e]
    refine t_ite (fun c => ?_) (fun c => ?_)
    · have c := (nI_leI (by omega) (by omega)).mp c
      refine t_ret (show ∀ c, c < w → I 73 (3 * t + c) ≠ l from fun c' h => h2 c' (by omega))
    · have c := mt (nI_leI (a := w) (b := i) (by omega) (by omega)).mpr c
      rw [L3, nI_mul, nI_add, rI_n (by omega) (by omega), obs]
      refine t_ite (fun c2 => ?_) (fun c2 => ?_)
      · exact t_ret (show ∃ i', i' < w ∧ nI i = nI i' ∧ I 73 (3 * t + i') = l ∧ ∀ c, c < i' → I 73 (3 * t + c) ≠ l from ⟨i, by omega, rfl, c2, h2⟩)
      · rw [nI_1]
        refine t_ret (show _ ∧ _ from ⟨⟨i + 1, rfl, by omega, fun c' h => ?_⟩, ?_⟩)
        · rcases (by omega : c' < i ∨ c' = i) with q | q
          · exact h2 c' q
          · rw [q]; exact c2
        · show 20 - (nI (i + 1)).toInt.toNat < 20 - (nI i).toInt.toNat
          rw [nIt (by omega), nIt (by omega)]; omega
  obtain ⟨r, e1, h⟩ := key
  unfold fX9_columnOf
  rw [L0, e1, obs]
  rcases r with r | r
  · exact ⟨r, rfl, Or.inl h⟩
  · exact ⟨-1, rfl, Or.inr ⟨rfl, h⟩⟩
theorem CO.lt {w : Nat} (hw : w ≤ 3) {lt : Nat → Int32} {l r : Int32} (h : CO w lt l r) (hr : r ≠ -1) : ∃ c, c < w ∧ r = nI c ∧ lt c = l := by
  rcases h with ⟨i, h1, h2, h3, h4⟩ | ⟨h1, h2⟩
  · exact ⟨i, h1, h2, h3⟩
  · exact absurd h1 hr
/-- what the search does not change -/
def Cx (B I : gM) : Prop := I 62 17 = B 62 17 ∧ I 62 19 = B 62 19 ∧ I 70 = B 70 ∧ I 72 = B 72 ∧ I 73 = B 73 ∧ I 74 = B 74
theorem Cx.up {B I : gM} (C : Cx B I) {k j : Nat} {v : Int32} (h : k ≠ 62 ∨ (j ≠ 17 ∧ j ≠ 19)) (h0 : k ≠ 70) (h2 : k ≠ 72) (h3 : k ≠ 73) (h4 : k ≠ 74) : Cx B (g_up I k j v) := by
  obtain ⟨c1, c2, c3, c4, c5, c6⟩ := C
  refine ⟨?_, ?_, ?_, ?_, ?_, ?_⟩
  · rw [g_up_ne (by omega)]; exact c1
  · rw [g_up_ne (by omega)]; exact c2
  · rw [g_up_row (Ne.symm h0)]; exact c3
  · rw [g_up_row (Ne.symm h2)]; exact c4
  · rw [g_up_row (Ne.symm h3)]; exact c5
  · rw [g_up_row (Ne.symm h4)]; exact c6
theorem cg_columnOf {B I : gM} (C : Cx B I) (v l : Int32) : fX9_columnOf v l I = fX9_columnOf v l B := by
  obtain ⟨c1, c2, c3, c4, c5, c6⟩ := C
  unfold fX9_columnOf lX9_columnOf_2
  rw [c4, c5]
theorem cg_isUsed {B I : gM} (C : Cx B I) (v : Int32) : fX9_isUsed v I = fX9_isUsed v B := by
  unfold fX9_isUsed
  rw [C.2.2.1]
theorem cg_isIn {B I : gM} (C : Cx B I) (v d : Int32) : fX9_isIn v d I = fX9_isIn v d B := by
  unfold fX9_isIn
  rw [cg_isUsed C, C.2.2.2.2.2]
  simp only [cg_columnOf C]
/-- the base of a search: n tables, D letters -/
def Bs (B : gM) (n D : Nat) : Prop := n ≤ 4 ∧ D ≤ 4 ∧ B 62 17 = nI n ∧ B 62 19 = nI D ∧ (∀ t, t < 4 → ∃ m, m ≤ 12 ∧ B 70 (2 + t) = nI m) ∧ (∀ t, t < 4 → ∃ w, w ≤ 3 ∧ B 72 t = nI w) ∧ (∀ d, d < 4 → ∃ l, l < 4 ∧ B 74 d = nI l)
/-- a table's rows, the letter of a depth, its column in a table -/
def mn (B : gM) (t : Nat) : Nat := (B 70 (2 + t)).toInt.toNat
def lo (B : gM) (d : Nat) : Nat := (B 74 d).toInt.toNat
noncomputable def cv (B : gM) (t d : Nat) : Int32 := (fX9_columnOf (nI t) (B 74 d) B).getD 0
noncomputable def cn (B : gM) (t d : Nat) : Nat := (cv B t d).toInt.toNat
def inn (B : gM) (t d : Nat) : Prop := hs (B 70 0) t ∧ cv B t d ≠ -1
noncomputable def vl (B : gM) (t i d : Nat) : Int32 := B 70 (6 + 3 * (12 * t + i) + cn B t d)
theorem bs_mn {B : gM} {n D : Nat} (h : Bs B n D) {t : Nat} (ht : t < 4) : mn B t ≤ 12 ∧ B 70 (2 + t) = nI (mn B t) := by
  obtain ⟨m, h1, h2⟩ := h.2.2.2.2.1 t ht
  unfold mn
  rw [h2, nIt (by omega)]; exact ⟨h1, rfl⟩
theorem bs_lo {B : gM} {n D : Nat} (h : Bs B n D) {d : Nat} (hd : d < 4) : lo B d < 4 ∧ B 74 d = nI (lo B d) := by
  obtain ⟨m, h1, h2⟩ := h.2.2.2.2.2.2 d hd
  unfold lo
  rw [h2, nIt (by omega)]; exact ⟨h1, rfl⟩
theorem bs_cv {B : gM} {n D : Nat} (h : Bs B n D) {t : Nat} (ht : t < 4) (d : Nat) : fX9_columnOf (nI t) (B 74 d) B = some (cv B t d) ∧ (cv B t d = -1 ∨ (cv B t d = nI (cn B t d) ∧ cn B t d < 3)) := by
  obtain ⟨w, h1, h2⟩ := h.2.2.2.2.2.1 t ht
  obtain ⟨r, e, c⟩ := n_columnOf ht h1 h2 (B 74 d)
  unfold cn cv
  rw [e]
  refine ⟨rfl, ?_⟩
  show r = -1 ∨ (r = nI r.toInt.toNat ∧ r.toInt.toNat < 3)
  by_cases q : r = -1
  · exact Or.inl q
  · obtain ⟨i, i1, i2, i3⟩ := c.lt h1 q
    rw [i2, nIt (by omega)]; exact Or.inr ⟨rfl, by omega⟩
theorem n_isIn1 {B I : gM} {n D t d : Nat} (h : Bs B n D) (C : Cx B I) (ht : t < 4) (hd : d < 4) (q : inn B t d) : fX9_isIn (nI t) (nI d) I = some 1 := by
  rw [cg_isIn C]
  unfold fX9_isIn
  rw [n_isUsed1 q.1, obs, if_neg (by decide), rI_n (by omega) (by omega), obs, (bs_cv h ht d).1, obs, if_neg q.2]
theorem n_isIn0 {B I : gM} {n D t d : Nat} (h : Bs B n D) (C : Cx B I) (ht : t < 4) (hd : d < 4) (q : ¬ inn B t d) : fX9_isIn (nI t) (nI d) I = some 0 := by
  rw [cg_isIn C]
  unfold fX9_isIn
  by_cases u : hs (B 70 0) t
  · have q : cv B t d = -1 := Classical.byContradiction fun z => q ⟨u, z⟩
    rw [n_isUsed1 u, obs, if_neg (by decide), rI_n (by omega) (by omega), obs, (bs_cv h ht d).1, obs, if_pos q]
  · rw [n_isUsed0 u, obs, if_pos rfl]
/-- a row has the numbers found -/
def FT (B : gM) (t i d : Nat) (f : Nat → Int32) : Prop := ∀ e, e < d → cv B t e = -1 ∨ vl B t i e = f (lo B e)
theorem n_fits {B I : gM} {n D t i d : Nat} (h : Bs B n D) (C : Cx B I) (ht : t < 4) (hi : i < 12) (hd : d ≤ 4) : (FT B t i d (I 75) ∧ fX9_fits (nI t) (nI i) (nI d) I = some 1) ∨ (¬ FT B t i d (I 75) ∧ fX9_fits (nI t) (nI i) (nI d) I = some 0) := by
  have key : T (lX9_fits_6 (nI t) (nI i) (nI d) I (nI 1, nI 0)) (fun r => (FT B t i d (I 75) ∧ r = 1) ∨ (¬ FT B t i d (I 75) ∧ r = 0)) := by
    unfold lX9_fits_6
    refine t_it (P := fun s => ∃ k, s.2 = nI k ∧ k ≤ d ∧ ((FT B t i k (I 75) ∧ s.1 = 1) ∨ (¬ FT B t i k (I 75) ∧ s.1 = 0))) (μ := fun s => 20 - s.2.toInt.toNat) (fun s p => ?_) ⟨0, rfl, by omega, Or.inl ⟨fun e he => by omega, rfl⟩⟩
    obtain ⟨s1, s2⟩ := s
    obtain ⟨k, e1, h1, h2⟩ := p
    dsimp only at e1 h2
    subst e1
    refine t_ite (fun c => ?_) (fun c => ?_)
    · have c := (nI_leI (by omega) (by omega)).mp c
      obtain rfl : k = d := by omega
      exact t_ret (show (FT B t i k (I 75) ∧ s1 = 1) ∨ (¬ FT B t i k (I 75) ∧ s1 = 0) from h2)
    · have c := mt (nI_leI (a := d) (b := k) (by omega) (by omega)).mpr c
      show T ((rI 4 (I 74) (nI k)).bind _) _
      rw [rI_n (by omega) (by omega), obs, cg_columnOf C, C.2.2.2.2.2, (bs_cv h ht k).1, obs]
      have nx : ∀ v : Int32, ((FT B t i (k + 1) (I 75) ∧ v = 1) ∨ (¬ FT B t i (k + 1) (I 75) ∧ v = 0)) → T (some (.inl (v, nI k + 1)) : Option ((Int32 × Int32) ⊕ Int32)) (LQ (fun s : Int32 × Int32 => ∃ k, s.2 = nI k ∧ k ≤ d ∧ ((FT B t i k (I 75) ∧ s.1 = 1) ∨ (¬ FT B t i k (I 75) ∧ s.1 = 0))) (20 - (nI k).toInt.toNat) (fun s => 20 - s.2.toInt.toNat) (fun r => (FT B t i d (I 75) ∧ r = 1) ∨ (¬ FT B t i d (I 75) ∧ r = 0))) := fun v hv => by
        refine t_ret (show _ ∧ _ from ⟨⟨k + 1, nI_1 k, by omega, hv⟩, ?_⟩)
        show 20 - (nI k + 1).toInt.toNat < 20 - (nI k).toInt.toNat
        rw [nI_1, nIt (by omega), nIt (by omega)]; omega
      have up : ∀ {P : Prop}, ((cv B t k = -1 ∨ vl B t i k = I 75 (lo B k)) ↔ P) → (FT B t i (k + 1) (I 75) ↔ FT B t i k (I 75) ∧ P) := fun {P} hP => by
        constructor
        · intro q; exact ⟨fun e he => q e (by omega), hP.mp (q k (by omega))⟩
        · rintro ⟨q1, q2⟩ e he
          rcases (by omega : e < k ∨ e = k) with z | z
          · exact q1 e z
          · rw [z]; exact hP.mpr q2
      refine t_ite (fun c1 => ?_) (fun c1 => ?_)
      · have h3 : ¬ FT B t i k (I 75) := by
          rcases h2 with h2 | h2
          · exact absurd (show (1 : Int32) = 0 from h2.2 ▸ c1) (by decide)
          · exact h2.1
        exact nx 0 (Or.inr ⟨fun q => h3 (fun e he => q e (by omega)), rfl⟩)
      · have h3 : FT B t i k (I 75) := by
          rcases h2 with h2 | h2
          · exact h2.1
          · exact absurd h2.2 c1
        refine t_ite (fun c2 => ?_) (fun c2 => ?_)
        · exact nx 1 (Or.inl ⟨(up (P := True) ⟨fun _ => trivial, fun _ => Or.inl c2⟩).mpr ⟨h3, trivial⟩, rfl⟩)
        · obtain ⟨q1, q2⟩ := (bs_cv h ht k).2.resolve_left c2
          have q3 := bs_lo h (d := k) (by omega)
          rw [n_rowAt, obs, q1, nI_add]
          refine t_be (rI_n (by omega) (by omega)) (t_be rfl ?_)
          rw [q3.2, C.2.2.1]
          refine t_be (rI_n (by omega) (by omega)) ?_
          have hv : ∀ P : Prop, (vl B t i k = I 75 (lo B k) ↔ P) → ((cv B t k = -1 ∨ vl B t i k = I 75 (lo B k)) ↔ P) := fun P z => ⟨fun y => z.mp (y.resolve_left c2), fun y => Or.inr (z.mpr y)⟩
          refine t_ite (fun c3 => ?_) (fun c3 => ?_)
          · exact nx 1 (Or.inl ⟨(up (hv True ⟨fun _ => trivial, fun _ => c3⟩)).mpr ⟨h3, trivial⟩, rfl⟩)
          · exact nx 0 (Or.inr ⟨fun q => ((up (hv False ⟨c3, False.elim⟩)).mp q).2, rfl⟩)
  obtain ⟨r, e, h⟩ := key
  unfold fX9_fits
  rw [L1, L0, e, obs]
  rcases h with h | h
  · rw [h.2, bO_1, obs]; exact Or.inl ⟨h.1, rfl⟩
  · rw [h.2, bO_0, obs]; exact Or.inr ⟨h.1, rfl⟩
end P_27a_join9
section P_27b_keys9
/-! the reference's join: the keys of a depth -/
/-- n keys of a cell, rising, and what is among them -/
def KS (K : Nat → Int32) (c n : Nat) (P : Int32 → Prop) : Prop := (∀ i j, i < j → j < n → (K (12 * c + i)).toInt < (K (12 * c + j)).toInt) ∧ ∀ v, P v ↔ ∃ j, j < n ∧ K (12 * c + j) = v
theorem KS.iff {K : Nat → Int32} {c n : Nat} {P Q : Int32 → Prop} (h : KS K c n P) (e : ∀ v, Q v ↔ P v) : KS K c n Q := ⟨h.1, fun v => (e v).trans (h.2 v)⟩
theorem KS.same {K K' : Nat → Int32} {c n : Nat} {P : Int32 → Prop} (h : KS K c n P) (e : ∀ j, j < n → K' (12 * c + j) = K (12 * c + j)) : KS K' c n P := by
  refine ⟨fun i j a b => ?_, fun v => (h.2 v).trans ⟨?_, ?_⟩⟩
  · rw [e i (by omega), e j b]; exact h.1 i j a b
  · rintro ⟨j, a, b⟩; exact ⟨j, a, by rw [e j a]; exact b⟩
  · rintro ⟨j, a, b⟩; exact ⟨j, a, by rw [← e j a]; exact b⟩
theorem n_takesKey10 {I : gM} {c n : Nat} (hc : c < 16) (hn : n ≤ 11) (v : Int32) : ∃ k, lX9_takesKey_10 (nI c) v I (nI n) = some (nI k) ∧ k ≤ n ∧ (∀ j, k ≤ j → j < n → v.toInt < (I 76 (12 * c + j)).toInt) ∧ (k = 0 ∨ (I 76 (12 * c + k - 1)).toInt ≤ v.toInt) := by
  have key : T (lX9_takesKey_10 (nI c) v I (nI n)) (fun r => ∃ k, r = nI k ∧ k ≤ n ∧ (∀ j, k ≤ j → j < n → v.toInt < (I 76 (12 * c + j)).toInt) ∧ (k = 0 ∨ (I 76 (12 * c + k - 1)).toInt ≤ v.toInt)) := by
    unfold lX9_takesKey_10
    refine t_it (P := fun s => ∃ k, s = nI k ∧ k ≤ n ∧ ∀ j, k ≤ j → j < n → v.toInt < (I 76 (12 * c + j)).toInt) (μ := fun s => s.toInt.toNat) (fun s p => ?_) ⟨n, rfl, by omega, fun j a b => by omega⟩
    obtain ⟨k, rfl, h1, h2⟩ := p
    refine t_ite (fun c1 => ?_) (fun c1 => ?_)
    · have c1 := (nI_leI (b := 0) (by omega) (by omega)).mp c1
      exact t_ret (show ∃ k', nI k = nI k' ∧ k' ≤ n ∧ (∀ j, k' ≤ j → j < n → v.toInt < (I 76 (12 * c + j)).toInt) ∧ (k' = 0 ∨ (I 76 (12 * c + k' - 1)).toInt ≤ v.toInt) from ⟨k, rfl, h1, h2, Or.inl (by omega)⟩)
    · have c1 := mt (nI_leI (a := k) (b := 0) (by omega) (by omega)).mpr c1
      rw [a12, nI_s1 (by omega), rI_n (by omega) (by omega), obs]
      refine t_ite (fun c2 => ?_) (fun c2 => ?_)
      · exact t_ret (show ∃ k', nI k = nI k' ∧ k' ≤ n ∧ (∀ j, k' ≤ j → j < n → v.toInt < (I 76 (12 * c + j)).toInt) ∧ (k' = 0 ∨ (I 76 (12 * c + k' - 1)).toInt ≤ v.toInt) from ⟨k, rfl, h1, h2, Or.inr ((iLE rfl rfl).mp c2)⟩)
      · have c2 := mt (iLE (a := I 76 (12 * c + k - 1)) (b := v) rfl rfl).mpr c2
        rw [nI_dec (by omega)]
        refine t_ret (show _ ∧ _ from ⟨⟨k - 1, rfl, by omega, fun j a b => ?_⟩, ?_⟩)
        · rcases (by omega : k ≤ j ∨ j = k - 1) with q | q
          · exact h2 j q b
          · rw [q, show 12 * c + (k - 1) = 12 * c + k - 1 by omega]; omega
        · show (nI (k - 1)).toInt.toNat < (nI k).toInt.toNat
          rw [nIt (by omega), nIt (by omega)]; omega
  obtain ⟨r, e, k, rfl, h⟩ := key
  exact ⟨k, e, h⟩
theorem n_takesKey66 {I : gM} {c n k : Nat} (hc : c < 16) (hn : n ≤ 11) (hk : k ≤ n) : T (lX9_takesKey_66 (nI c) (nI k) (nI n, I)) (fun r => (∀ q, q ≠ 76 → r q = I q) ∧ ∀ a, r 76 a = if 12 * c + k < a ∧ a ≤ 12 * c + n then I 76 (a - 1) else I 76 a) := by
  unfold lX9_takesKey_66
  refine t_it (P := fun s => ∃ i, s.1 = nI i ∧ k ≤ i ∧ i ≤ n ∧ (∀ q, q ≠ 76 → s.2 q = I q) ∧ ∀ a, s.2 76 a = if 12 * c + i < a ∧ a ≤ 12 * c + n then I 76 (a - 1) else I 76 a) (μ := fun s => s.1.toInt.toNat) (fun s p => ?_) ⟨n, rfl, hk, by omega, fun _ _ => rfl, fun a => by rw [if_neg (by omega)]⟩
  obtain ⟨s1, s2⟩ := s
  obtain ⟨i, e1, h1, h2, h3, h4⟩ := p
  dsimp only at e1 h3 h4
  subst e1
  refine t_ite (fun c1 => ?_) (fun c1 => ?_)
  · have c1 := (nI_leI (by omega) (by omega)).mp c1
    obtain rfl : i = k := by omega
    exact t_ret (show (∀ q, q ≠ 76 → s2 q = I q) ∧ ∀ a, s2 76 a = if 12 * c + i < a ∧ a ≤ 12 * c + n then I 76 (a - 1) else I 76 a from ⟨h3, h4⟩)
  · have c1 := mt (nI_leI (a := i) (b := k) (by omega) (by omega)).mpr c1
    dsimp only
    rw [a12, nI_s1 (by omega), rI_n (by omega) (by omega), obs]
    rw [wI_n (by omega) (by omega), obs]
    refine t_ret (show _ ∧ _ from ⟨⟨i - 1, nI_dec (by omega), by omega, by omega, fun q h => ?_, fun a => ?_⟩, ?_⟩)
    · show g_up s2 76 _ _ q = I q
      rw [g_up_row h]; exact h3 q h
    · show g_up s2 76 (12 * c + i) (s2 76 (12 * c + i - 1)) 76 a = _
      rw [gu_in, h4, h4]
      by_cases z : a = 12 * c + i
      · rw [if_pos z, if_neg (by omega), if_pos (by omega), z]
      · rw [if_neg z]
        by_cases z2 : 12 * c + i < a ∧ a ≤ 12 * c + n
        · rw [if_pos z2, if_pos (by omega)]
        · rw [if_neg z2, if_neg (by omega)]
    · show (nI i + (-1)).toInt.toNat < (nI i).toInt.toNat
      rw [nI_dec (by omega), nIt (by omega), nIt (by omega)]; omega
theorem n_takesKey {I : gM} {c n : Nat} (hc : c < 16) (hn : n ≤ 11) (e : I 77 c = nI n) (v : Int32) {P : Int32 → Prop} (hK : KS (I 76) c n P) : ∃ r n', fX9_takesKey (nI c) v I = some r ∧ n' ≤ n + 1 ∧ (∀ j, r 77 j = if j = c then nI n' else I 77 j) ∧ KS (r 76) c n' (fun u => P u ∨ u = v) ∧ (∀ q, q ≠ 76 → q ≠ 77 → r q = I q) ∧ (∀ a, (a < 12 * c ∨ 12 * c + 12 ≤ a) → r 76 a = I 76 a) ∧ (∀ a, r 76 a = v ∨ ∃ b, r 76 a = I 76 b) := by
  obtain ⟨k, e1, k1, k2, k3⟩ := n_takesKey10 (I := I) hc hn v
  unfold fX9_takesKey
  rw [rI_n (by omega) (by omega), obs, e, e1, obs]
  unfold bX9_takesKey_39
  have ins : (k = 0 ∨ (I 76 (12 * c + k - 1)).toInt < v.toInt) → ∃ r n', bX9_takesKey_63 (nI c) v (nI n) (nI k) I = some r ∧ n' ≤ n + 1 ∧ (∀ j, r 77 j = if j = c then nI n' else I 77 j) ∧ KS (r 76) c n' (fun u => P u ∨ u = v) ∧ (∀ q, q ≠ 76 → q ≠ 77 → r q = I q) ∧ (∀ a, (a < 12 * c ∨ 12 * c + 12 ≤ a) → r 76 a = I 76 a) ∧ (∀ a, r 76 a = v ∨ ∃ b, r 76 a = I 76 b) := fun hk => by
    obtain ⟨w, ew, w1, w2⟩ := n_takesKey66 (I := I) hc hn k1
    unfold bX9_takesKey_63
    rw [ew, obs, a12, wI_n (by omega) (by omega), obs, rI_n (by omega) (by omega), obs, g_up_row (by omega), w1 77 (by omega), e, nI_1, wI_n (by omega) (by omega), obs]
    have v76 : ∀ a, g_up (g_up w 76 (12 * c + k) v) 77 c (nI (n + 1)) 76 a = if a = 12 * c + k then v else if 12 * c + k < a ∧ a ≤ 12 * c + n then I 76 (a - 1) else I 76 a := fun a => by
      rw [g_up_row (by omega), gu_in, w2]
    have vl1 : ∀ j, j < k → g_up (g_up w 76 (12 * c + k) v) 77 c (nI (n + 1)) 76 (12 * c + j) = I 76 (12 * c + j) := fun j h => by
      rw [v76, if_neg (by omega), if_neg (by omega)]
    have vl2 : g_up (g_up w 76 (12 * c + k) v) 77 c (nI (n + 1)) 76 (12 * c + k) = v := by rw [v76, if_pos rfl]
    have vl3 : ∀ j, k < j → j < n + 1 → g_up (g_up w 76 (12 * c + k) v) 77 c (nI (n + 1)) 76 (12 * c + j) = I 76 (12 * c + (j - 1)) := fun j h h' => by
      rw [v76, if_neg (by omega), if_pos (by omega), show 12 * c + j - 1 = 12 * c + (j - 1) by omega]
    have hk' : 0 < k → (I 76 (12 * c + (k - 1))).toInt < v.toInt := fun h => by
      rcases hk with q | q
      · omega
      · rw [show 12 * c + (k - 1) = 12 * c + k - 1 by omega]; exact q
    refine ⟨_, n + 1, rfl, by omega, fun j => ?_, ⟨fun i j a b => ?_, fun u => ⟨?_, ?_⟩⟩, fun q h1 h2 => ?_, fun a h => ?_, fun a => ?_⟩
    · rw [gu_in, g_up_row (by omega), w1 77 (by omega)]
    · rcases (by omega : j < k ∨ j = k ∨ k < j) with z | z | z
      · rw [vl1 i (by omega), vl1 j z]; exact hK.1 i j a (by omega)
      · rw [z, vl2, vl1 i (by omega)]
        have h1 := hk' (by omega)
        by_cases y : i = k - 1
        · rw [y]; exact h1
        · have := hK.1 i (k - 1) (by omega) (by omega)
          omega
      · rw [vl3 j z b]
        rcases (by omega : i < k ∨ i = k ∨ k < i) with y | y | y
        · rw [vl1 i y]; exact hK.1 i (j - 1) (by omega) (by omega)
        · rw [y, vl2]; exact k2 (j - 1) (by omega) (by omega)
        · rw [vl3 i y (by omega)]; exact hK.1 (i - 1) (j - 1) (by omega) (by omega)
    · rintro (h | h)
      · obtain ⟨j, a, b⟩ := (hK.2 u).mp h
        by_cases z : j < k
        · exact ⟨j, by omega, by rw [v76, if_neg (by omega), if_neg (by omega)]; exact b⟩
        · exact ⟨j + 1, by omega, by rw [v76, if_neg (by omega), if_pos (by omega), show 12 * c + (j + 1) - 1 = 12 * c + j by omega]; exact b⟩
      · exact ⟨k, by omega, by rw [v76, if_pos rfl]; exact h.symm⟩
    · rintro ⟨j, a, b⟩
      rw [v76] at b
      by_cases z1 : j = k
      · rw [if_pos (by omega)] at b; exact Or.inr b.symm
      · rw [if_neg (by omega)] at b
        by_cases z2 : k < j
        · rw [if_pos (by omega), show 12 * c + j - 1 = 12 * c + (j - 1) by omega] at b
          exact Or.inl ((hK.2 u).mpr ⟨j - 1, by omega, b⟩)
        · rw [if_neg (by omega)] at b
          exact Or.inl ((hK.2 u).mpr ⟨j, by omega, b⟩)
    · rw [g_up_row h2, g_up_row h1, w1 q h1]
    · rw [v76, if_neg (by omega), if_neg (by omega)]
    · rw [v76]
      by_cases z1 : a = 12 * c + k
      · rw [if_pos z1]; exact Or.inl rfl
      · rw [if_neg z1]
        by_cases z2 : 12 * c + k < a ∧ a ≤ 12 * c + n
        · rw [if_pos z2]; exact Or.inr ⟨_, rfl⟩
        · rw [if_neg z2]; exact Or.inr ⟨_, rfl⟩
  by_cases z : k = 0
  · subst z
    rw [if_pos (show nI 0 ≤ 0 from by decide)]
    exact ins (Or.inl rfl)
  · rw [if_neg (show ¬ nI k ≤ (0 : Int32) from mt (nI_leI (a := k) (b := 0) (by omega) (by omega)).mp (by omega)), a12, nI_s1 (by omega), rI_n (by omega) (by omega), obs]
    by_cases z2 : I 76 (12 * c + k - 1) = v
    · rw [if_pos z2]
      refine ⟨I, n, rfl, by omega, fun j => ?_, hK.iff (fun u => ⟨fun h => h.elim id (fun h => ?_), Or.inl⟩), fun _ _ _ => rfl, fun _ _ => rfl, fun a => Or.inr ⟨a, rfl⟩⟩
      · by_cases y : j = c
        · rw [if_pos y, y, e]
        · rw [if_neg y]
      · rw [h]; exact (hK.2 v).mpr ⟨k - 1, by omega, by rw [← z2, show 12 * c + (k - 1) = 12 * c + k - 1 by omega]⟩
    · rw [if_neg z2]
      refine ins (Or.inr ?_)
      rcases k3 with k3 | k3
      · exact absurd k3 z
      · have : ¬ (I 76 (12 * c + k - 1)).toInt = v.toInt := fun q => z2 (Int32.toInt_inj.mp q)
        omega
end P_27b_keys9
section P_27c_lays9
/-! the reference's join: the keys of all tables at a depth -/
/-- the keys of a table at a depth -/
def Ky (B : gM) (t d : Nat) (f : Nat → Int32) (I : gM) (nk : Nat) : Prop := nk ≤ 12 ∧ I 77 (4 * d + t) = nI nk ∧ KS (I 76) (4 * d + t) nk (fun v => ∃ i, i < mn B t ∧ FT B t i d f ∧ vl B t i d = v)
theorem Ky.same {B : gM} {t d : Nat} {f : Nat → Int32} {I I' : gM} {nk : Nat} (h : Ky B t d f I nk) (h7 : I' 77 (4 * d + t) = I 77 (4 * d + t)) (h6 : ∀ j, j < 12 → I' 76 (12 * (4 * d + t) + j) = I 76 (12 * (4 * d + t) + j)) : Ky B t d f I' nk :=
  ⟨h.1, h7.trans h.2.1, h.2.2.same (fun j q => h6 j (by have := h.1; omega))⟩
theorem vl_rg {I0 B I : gM} {n D t i d : Nat} (h : Bs B n D) (hM : MI false I0 I) (C : Cx B I) (ht : t < 4) (hi : i < 12) (q : cv B t d ≠ -1) : -1 ≤ (vl B t i d).toInt ∧ (vl B t i d).toInt ≤ 99 := by
  have c3 := ((bs_cv h ht d).2.resolve_left q).2
  have := hM.at (k := 70) (j := 6 + 3 * (12 * t + i) + cn B t d) (lo := -1) (hi := 99) (by
    show rgNow _ = _
    unfold rgNow
    rw [if_neg (by omega), if_neg (by omega), if_pos (by omega)])
  rw [C.2.2.1] at this; exact this
theorem n_laysKeys60 {I0 B I : gM} {n D t d : Nat} (h : Bs B n D) (hM : MI false I0 I) (C : Cx B I) (ht : t < 4) (hd : d < 4) (q : inn B t d) (e : I 77 (4 * d + t) = nI 0) : T (lX9_laysKeys_60 (nI d) (nI t) (nI (4 * d + t)) (nI (cn B t d)) (nI 0, I)) (fun r => MI false I0 r ∧ Cx B r ∧ (∃ nk, Ky B t d (I 75) r nk) ∧ (∀ j, j ≠ 4 * d + t → r 77 j = I 77 j) ∧ (∀ k, k ≠ 76 → k ≠ 77 → r k = I k) ∧ ∀ a, (a < 12 * (4 * d + t) ∨ 12 * (4 * d + t) + 12 ≤ a) → r 76 a = I 76 a) := by
  obtain ⟨m1, m2⟩ := bs_mn h ht
  have c3 := (bs_cv h ht d).2.resolve_left q.2
  unfold lX9_laysKeys_60
  refine t_it (P := fun s => ∃ i, s.1 = nI i ∧ i ≤ mn B t ∧ MI false I0 s.2 ∧ Cx B s.2 ∧ (∃ nk, nk ≤ i ∧ s.2 77 (4 * d + t) = nI nk ∧ KS (s.2 76) (4 * d + t) nk (fun v => ∃ i', i' < i ∧ FT B t i' d (I 75) ∧ vl B t i' d = v)) ∧ (∀ j, j ≠ 4 * d + t → s.2 77 j = I 77 j) ∧ (∀ k, k ≠ 76 → k ≠ 77 → s.2 k = I k) ∧ ∀ a, (a < 12 * (4 * d + t) ∨ 12 * (4 * d + t) + 12 ≤ a) → s.2 76 a = I 76 a) (μ := fun s => 20 - s.1.toInt.toNat) (fun s p => ?_)
    ⟨0, rfl, by omega, hM, C, ⟨0, by omega, e, ⟨fun i j a b => by omega, fun v => ⟨fun ⟨i, a, _⟩ => by omega, fun ⟨j, a, _⟩ => by omega⟩⟩⟩, fun _ _ => rfl, fun _ _ _ => rfl, fun _ _ => rfl⟩
  obtain ⟨s1, s2⟩ := s
  obtain ⟨i, e1, h1, hM2, C2, ⟨nk, k1, k2, k3⟩, f1, f2, f3⟩ := p
  dsimp only at e1 hM2 C2 k2 k3 f1 f2 f3
  subst e1
  dsimp only
  rw [n_many ht, obs, C2.2.2.1, m2]
  refine t_ite (fun c => ?_) (fun c => ?_)
  · have c := (nI_leI (by omega) (by omega)).mp c
    obtain rfl : i = mn B t := by omega
    exact t_ret (show MI false I0 s2 ∧ Cx B s2 ∧ (∃ nk, Ky B t d (I 75) s2 nk) ∧ (∀ j, j ≠ 4 * d + t → s2 77 j = I 77 j) ∧ (∀ k, k ≠ 76 → k ≠ 77 → s2 k = I k) ∧ ∀ a, (a < 12 * (4 * d + t) ∨ 12 * (4 * d + t) + 12 ≤ a) → s2 76 a = I 76 a from ⟨hM2, C2, ⟨nk, by omega, k2, k3⟩, f1, f2, f3⟩)
  · have c := mt (nI_leI (a := mn B t) (b := i) (by omega) (by omega)).mpr c
    have n75 : s2 75 = I 75 := f2 75 (by omega) (by omega)
    have mu : 20 - (nI i + 1).toInt.toNat < 20 - (nI i).toInt.toNat := by rw [nI_1, nIt (by omega), nIt (by omega)]; omega
    rcases n_fits h C2 ht (i := i) (by omega) (d := d) (by omega) with ⟨y, e2⟩ | ⟨y, e2⟩
    · rw [e2, obs, if_neg (by decide), n_rowAt, obs, nI_add]
      refine t_be (rI_n (by omega) (by omega)) ?_
      show T ((fX9_takesKey (nI (4 * d + t)) (vl B t i d) s2).bind _) _
      obtain ⟨r, n', e3, r1, r2, r3, r4, r5, r6⟩ := n_takesKey (c := 4 * d + t) (by omega) (n := nk) (by omega) k2 (vl B t i d) k3
      refine t_be e3 ?_
      have b77 : ∀ j, r 77 j = if j = 4 * d + t then nI n' else s2 77 j := r2
      have hM3 : MI false I0 r := hM2.cells (fun z => by
        by_cases z1 : z = 76
        · subst z1
          refine Or.inr ⟨rfl, fun j => ?_⟩
          rcases r6 j with w | ⟨b, w⟩
          · rw [w]; exact vl_rg h hM2 C2 ht (by omega) q.2
          · rw [w]; exact hM2.at (k := 76) (j := b) rfl
        · by_cases z2 : z = 77
          · subst z2
            refine Or.inr ⟨rfl, fun j => ?_⟩
            rw [r2]
            by_cases z3 : j = 4 * d + t
            · rw [if_pos z3, tnI (by omega)]
              show (0 : Int) ≤ (n' : Int) ∧ (n' : Int) ≤ 12
              omega
            · rw [if_neg z3]; exact hM2.at (k := 77) (j := j) rfl
          · exact Or.inl (r4 z z1 z2))
      refine t_nx ?_ mu
      dsimp only
      refine ⟨i + 1, nI_1 i, by omega, hM3, ?_, ⟨n', by omega, by rw [r2, if_pos rfl], r3.iff (fun v => ?_)⟩, fun j hj => by rw [r2, if_neg hj]; exact f1 j hj, fun k y1 y2 => (r4 k y1 y2).trans (f2 k y1 y2), fun a ha => (r5 a ha).trans (f3 a ha)⟩
      · obtain ⟨C1, C2, C3, C4, C5, C6⟩ := C2
        exact ⟨by rw [r4 62 (by omega) (by omega)]; exact C1, by rw [r4 62 (by omega) (by omega)]; exact C2, by rw [r4 70 (by omega) (by omega)]; exact C3, by rw [r4 72 (by omega) (by omega)]; exact C4, by rw [r4 73 (by omega) (by omega)]; exact C5, by rw [r4 74 (by omega) (by omega)]; exact C6⟩
      · rw [n75] at y
        constructor
        · rintro ⟨i', a, b, c'⟩
          rcases (by omega : i' < i ∨ i' = i) with z | z
          · exact Or.inl ⟨i', z, b, c'⟩
          · subst z; exact Or.inr c'.symm
        · rintro (⟨i', a, b, c'⟩ | z)
          · exact ⟨i', by omega, b, c'⟩
          · exact ⟨i, by omega, y, z.symm⟩
    · rw [e2, obs, if_pos rfl]
      rw [n75] at y
      refine t_nx ?_ mu
      dsimp only
      refine ⟨i + 1, nI_1 i, by omega, hM2, C2, ⟨nk, by omega, k2, k3.iff (fun v => ?_)⟩, f1, f2, f3⟩
      constructor
      · rintro ⟨i', a, b, c'⟩
        rcases (by omega : i' < i ∨ i' = i) with z | z
        · exact ⟨i', z, b, c'⟩
        · subst z; exact absurd b y
      · rintro ⟨i', a, b, c'⟩
        exact ⟨i', by omega, b, c'⟩
/-- behind the laying of keys -/
theorem n_laysKeys {I0 B I : gM} {n D d : Nat} (h : Bs B n D) (hM : MI false I0 I) (C : Cx B I) (hd : d < 4) : ∃ v r, fX9_laysKeys (nI d) I = some (v, r) ∧ (v = 0 ∨ v = 1) ∧ MI false I0 r ∧ Cx B r ∧ (∀ t, t < n → inn B t d → ∃ nk, Ky B t d (I 75) r nk ∧ r 78 (4 * d + t) = nI 0 ∧ (v = 1 → 0 < nk)) ∧ (v = 0 → ∃ t, t < n ∧ inn B t d ∧ r 77 (4 * d + t) = nI 0) ∧ (∀ k, k ≠ 76 → k ≠ 77 → k ≠ 78 → r k = I k) ∧ (∀ c, c < 4 * d → r 77 c = I 77 c ∧ r 78 c = I 78 c) ∧ ∀ a, a < 48 * d → r 76 a = I 76 a := by
  have n4 : n ≤ 4 := h.1
  have key : T (lX9_laysKeys_4 (nI d) (nI 1, nI 0, I)) (fun w => (w.1 = 0 ∨ w.1 = 1) ∧ MI false I0 w.2 ∧ Cx B w.2 ∧ (∀ t, t < n → inn B t d → ∃ nk, Ky B t d (I 75) w.2 nk ∧ w.2 78 (4 * d + t) = nI 0 ∧ (w.1 = 1 → 0 < nk)) ∧ (w.1 = 0 → ∃ t, t < n ∧ inn B t d ∧ w.2 77 (4 * d + t) = nI 0) ∧ (∀ k, k ≠ 76 → k ≠ 77 → k ≠ 78 → w.2 k = I k) ∧ (∀ c, c < 4 * d → w.2 77 c = I 77 c ∧ w.2 78 c = I 78 c) ∧ ∀ a, a < 48 * d → w.2 76 a = I 76 a) := by
    unfold lX9_laysKeys_4
    refine t_it (P := fun s => ∃ t, s.2.1 = nI t ∧ t ≤ n ∧ (s.1 = 0 ∨ s.1 = 1) ∧ MI false I0 s.2.2 ∧ Cx B s.2.2 ∧ (∀ t', t' < t → inn B t' d → ∃ nk, Ky B t' d (I 75) s.2.2 nk ∧ s.2.2 78 (4 * d + t') = nI 0 ∧ (s.1 = 1 → 0 < nk)) ∧ (s.1 = 0 → ∃ t', t' < t ∧ inn B t' d ∧ s.2.2 77 (4 * d + t') = nI 0) ∧ (∀ k, k ≠ 76 → k ≠ 77 → k ≠ 78 → s.2.2 k = I k) ∧ (∀ c, c < 4 * d → s.2.2 77 c = I 77 c ∧ s.2.2 78 c = I 78 c) ∧ ∀ a, a < 48 * d → s.2.2 76 a = I 76 a) (μ := fun s => 20 - s.2.1.toInt.toNat) (fun s p => ?_)
      ⟨0, rfl, by omega, Or.inr rfl, hM, C, fun t' a => by omega, fun z => absurd (show nI 1 = 0 from z) (by decide), fun _ _ _ _ => rfl, fun _ _ => ⟨rfl, rfl⟩, fun _ _ => rfl⟩
    obtain ⟨s1, s2, s3⟩ := s
    obtain ⟨t, e1, h1, h2, hM2, C2, p1, p1', p2, p3, p4⟩ := p
    dsimp only at e1 h2 hM2 C2 p1 p1' p2 p3 p4
    subst e1
    dsimp only
    have tn : s3 62 17 = nI n := C2.1.trans h.2.2.1
    refine t_ite (fun c => ?_) (fun c => ?_)
    · rw [tn] at c
      have c := (nI_leI (by omega) (by omega)).mp c
      obtain rfl : t = n := by omega
      exact t_ret ⟨h2, hM2, C2, p1, p1', p2, p3, p4⟩
    · rw [tn] at c
      have c := mt (nI_leI (a := n) (b := t) (by omega) (by omega)).mpr c
      have mu : 20 - (nI t + 1).toInt.toNat < 20 - (nI t).toInt.toNat := by rw [nI_1, nIt (by omega), nIt (by omega)]; omega
      rw [a4]
      refine t_be (wI_n (by omega) (by omega)) ?_
      refine t_be (wI_n (by omega) (by omega)) ?_
      have hM3 : MI false I0 (g_up (g_up s3 77 (4 * d + t) 0) 78 (4 * d + t) 0) := (hM2.up (k := 77) rfl (lo := 0) (hi := 12) rfl (by decide) (by decide)).up (k := 78) rfl (lo := 0) (hi := 12) rfl (by decide) (by decide)
      have C3 : Cx B (g_up (g_up s3 77 (4 * d + t) 0) 78 (4 * d + t) 0) := (C2.up (by omega) (by omega) (by omega) (by omega) (by omega)).up (by omega) (by omega) (by omega) (by omega) (by omega)
      have q77 : ∀ j, j ≠ 4 * d + t → g_up (g_up s3 77 (4 * d + t) 0) 78 (4 * d + t) 0 77 j = s3 77 j := fun j hj => by rw [g_up_row (by omega), g_up_ne (Or.inr hj)]
      have q78 : ∀ j, j ≠ 4 * d + t → g_up (g_up s3 77 (4 * d + t) 0) 78 (4 * d + t) 0 78 j = s3 78 j := fun j hj => by rw [g_up_ne (Or.inr hj), g_up_row (by omega)]
      have qz : ∀ k, k ≠ 77 → k ≠ 78 → g_up (g_up s3 77 (4 * d + t) 0) 78 (4 * d + t) 0 k = s3 k := fun k y1 y2 => by rw [g_up_row y2, g_up_row y1]
      have qs : g_up (g_up s3 77 (4 * d + t) 0) 78 (4 * d + t) 0 77 (4 * d + t) = nI 0 ∧ g_up (g_up s3 77 (4 * d + t) 0) 78 (4 * d + t) 0 78 (4 * d + t) = nI 0 := ⟨by rw [g_up_row (by omega), g_up_self]; rfl, by rw [g_up_self]; rfl⟩
      generalize g_up (g_up s3 77 (4 * d + t) 0) 78 (4 * d + t) 0 = s4 at *
      by_cases q : inn B t d
      · refine t_be (n_isIn1 h C3 (by omega) hd q) ?_
        rw [if_neg (by decide)]
        refine t_be (rI_n (by omega) (by omega)) ?_
        have cc := bs_cv h (t := t) (by omega) d
        rw [cg_columnOf C3, C3.2.2.2.2.2]
        refine t_be cc.1 ?_
        rw [(cc.2.resolve_left q.2).1]
        refine t_bind (n_laysKeys60 h hM3 C3 (by omega) hd q qs.1) (fun w pw => ?_)
        obtain ⟨w1, w2, ⟨nk, w3⟩, w4, w5, w6⟩ := pw
        rw [show s4 75 = I 75 by rw [qz 75 (by omega) (by omega)]; exact p2 75 (by omega) (by omega) (by omega)] at w3
        have old : ∀ v : Int32, (v = 1 → s1 = 1) → ∀ t', t' < t → inn B t' d → ∃ nk, Ky B t' d (I 75) w nk ∧ w 78 (4 * d + t') = nI 0 ∧ (v = 1 → 0 < nk) := fun v hv t' a b => by
          obtain ⟨n2, z1, z2, z3⟩ := p1 t' a b
          refine ⟨n2, z1.same ?_ ?_, ?_, fun y => z3 (hv y)⟩
          · rw [w4 _ (by omega), q77 _ (by omega)]
          · intro j hj
            rw [w6 _ (by omega), qz 76 (by omega) (by omega)]
          · rw [w5 78 (by omega) (by omega), q78 _ (by omega)]; exact z2
        have nx : ∀ v : Int32, (v = 0 ∨ v = 1) → (v = 1 → s1 = 1 ∧ 0 < nk) → (v = 0 → ∃ t', t' < t + 1 ∧ inn B t' d ∧ w 77 (4 * d + t') = nI 0) → T (some (.inl (v, nI t + 1, w)) : Option ((Int32 × Int32 × gM) ⊕ (Int32 × gM))) (LQ (fun s => ∃ t, s.2.1 = nI t ∧ t ≤ n ∧ (s.1 = 0 ∨ s.1 = 1) ∧ MI false I0 s.2.2 ∧ Cx B s.2.2 ∧ (∀ t', t' < t → inn B t' d → ∃ nk, Ky B t' d (I 75) s.2.2 nk ∧ s.2.2 78 (4 * d + t') = nI 0 ∧ (s.1 = 1 → 0 < nk)) ∧ (s.1 = 0 → ∃ t', t' < t ∧ inn B t' d ∧ s.2.2 77 (4 * d + t') = nI 0) ∧ (∀ k, k ≠ 76 → k ≠ 77 → k ≠ 78 → s.2.2 k = I k) ∧ (∀ c, c < 4 * d → s.2.2 77 c = I 77 c ∧ s.2.2 78 c = I 78 c) ∧ ∀ a, a < 48 * d → s.2.2 76 a = I 76 a) (20 - (nI t).toInt.toNat) (fun s => 20 - s.2.1.toInt.toNat) (fun w => (w.1 = 0 ∨ w.1 = 1) ∧ MI false I0 w.2 ∧ Cx B w.2 ∧ (∀ t, t < n → inn B t d → ∃ nk, Ky B t d (I 75) w.2 nk ∧ w.2 78 (4 * d + t) = nI 0 ∧ (w.1 = 1 → 0 < nk)) ∧ (w.1 = 0 → ∃ t, t < n ∧ inn B t d ∧ w.2 77 (4 * d + t) = nI 0) ∧ (∀ k, k ≠ 76 → k ≠ 77 → k ≠ 78 → w.2 k = I k) ∧ (∀ c, c < 4 * d → w.2 77 c = I 77 c ∧ w.2 78 c = I 78 c) ∧ ∀ a, a < 48 * d → w.2 76 a = I 76 a)) := fun v hv hv1 hv0 => by
          refine t_nx ?_ mu
          dsimp only
          refine ⟨t + 1, nI_1 t, by omega, hv, w1, w2, fun t' a b => ?_, hv0, fun k y1 y2 y3 => ?_, fun c hc => ?_, fun a ha => ?_⟩
          · rcases (by omega : t' < t ∨ t' = t) with z | z
            · exact old v (fun y => (hv1 y).1) t' z b
            · subst z; exact ⟨nk, w3, by rw [w5 78 (by omega) (by omega)]; exact qs.2, fun y => (hv1 y).2⟩
          · exact (w5 k y1 y2).trans ((qz k y2 y3).trans (p2 k y1 y2 y3))
          · exact ⟨(w4 c (by omega)).trans ((q77 c (by omega)).trans (p3 c hc).1), (by rw [w5 78 (by omega) (by omega), q78 c (by omega)]; exact (p3 c hc).2)⟩
          · show w 76 a = I 76 a
            rw [w6 a (by omega), qz 76 (by omega) (by omega)]; exact p4 a ha
        have oldz : s1 = 0 → ∃ t', t' < t + 1 ∧ inn B t' d ∧ w 77 (4 * d + t') = nI 0 := fun z => by
          obtain ⟨t', y1, y2, y3⟩ := p1' z
          exact ⟨t', by omega, y2, by rw [w4 _ (by omega), q77 _ (by omega)]; exact y3⟩
        refine t_ite (fun c1 => ?_) (fun c1 => ?_)
        · exact nx 0 (Or.inl rfl) (fun y => absurd y (by decide)) (fun _ => oldz c1)
        · refine t_be (rI_n (by omega) (by omega)) ?_
          rw [w3.2.1]
          refine t_ite (fun c2 => ?_) (fun c2 => ?_)
          · have c2 := (nI_leI (b := 0) (by have := w3.1; omega) (by omega)).mp c2
            exact nx 0 (Or.inl rfl) (fun y => absurd y (by decide)) (fun _ => ⟨t, by omega, q, by rw [w3.2.1, show nk = 0 by omega]⟩)
          · have c2 := mt (nI_leI (a := nk) (b := 0) (by have := w3.1; omega) (by omega)).mpr c2
            exact nx 1 (Or.inr rfl) (fun _ => ⟨h2.resolve_left c1, by omega⟩) (fun y => absurd y (by decide))
      · refine t_be (n_isIn0 h C3 (by omega) hd q) ?_
        rw [if_pos rfl]
        refine t_nx ?_ mu
        dsimp only
        refine ⟨t + 1, nI_1 t, by omega, h2, hM3, C3, fun t' a b => ?_, fun z => ?_, fun k y1 y2 y3 => ?_, fun c hc => ?_, fun a ha => ?_⟩
        · rcases (by omega : t' < t ∨ t' = t) with z | z
          · obtain ⟨n2, z1, z2, z3⟩ := p1 t' z b
            exact ⟨n2, z1.same (q77 _ (by omega)) (fun j hj => by rw [qz 76 (by omega) (by omega)]), by rw [q78 _ (by omega)]; exact z2, z3⟩
          · subst z; exact absurd b q
        · obtain ⟨t', y1, y2, y3⟩ := p1' z
          exact ⟨t', by omega, y2, by rw [q77 _ (by omega)]; exact y3⟩
        · exact (qz k y2 y3).trans (p2 k y1 y2 y3)
        · exact ⟨(q77 c (by omega)).trans (p3 c hc).1, (q78 c (by omega)).trans (p3 c hc).2⟩
        · show s4 76 a = I 76 a
          rw [qz 76 (by omega) (by omega)]; exact p4 a ha
  obtain ⟨w, e, w1, w2⟩ := key
  refine ⟨w.1, w.2, ?_, w1, w2⟩
  unfold fX9_laysKeys
  rw [L1, L0, e, obs]
  rcases w1 with z | z
  · rw [z, bO_0, obs]
  · rw [z, bO_1, obs]
end P_27c_lays9
section P_27d_goes9
/-! the reference's join: the search -/
def stf (I : gM) (d t : Nat) : Nat := (I 78 (4 * d + t)).toInt.toNat
def nkf (I : gM) (d t : Nat) : Nat := (I 77 (4 * d + t)).toInt.toNat
def kf (I : gM) (d t : Nat) : Int32 := I 76 (12 * (4 * d + t) + stf I d t)
/-- all tables of a depth stand at a key -/
def DS (B : gM) (n d : Nat) (f : Nat → Int32) (I : gM) : Prop := ∀ t, t < n → inn B t d → Ky B t d f I (nkf I d t) ∧ stf I d t < nkf I d t ∧ I 78 (4 * d + t) = nI (stf I d t)
theorem n_keyAt {I : gM} {d t st : Nat} (hd : d < 4) (ht : t < 4) (hs : st < 12) (e : I 78 (4 * d + t) = nI st) : fX9_keyAt (nI d) (nI t) I = some (I 76 (12 * (4 * d + t) + st)) := by
  unfold fX9_keyAt
  rw [a4, rI_n (by omega) (by omega), obs, e, a12, rI_n (by omega) (by omega), obs]
theorem DS.key {B I : gM} {n d t : Nat} {f : Nat → Int32} (h : DS B n d f I) (hd : d < 4) (hn : n ≤ 4) (ht : t < n) (q : inn B t d) : fX9_keyAt (nI d) (nI t) I = some (kf I d t) ∧ ∃ i, i < mn B t ∧ FT B t i d f ∧ vl B t i d = kf I d t := by
  obtain ⟨h1, h2, h3⟩ := h t ht q
  exact ⟨n_keyAt hd (by omega) (by have := h1.1; omega) h3, (h1.2.2.2 _).mpr ⟨_, h2, rfl⟩⟩
theorem mX_ge {a b : Int32} : a.toInt ≤ (mX a b).toInt ∧ b.toInt ≤ (mX a b).toInt ∧ (mX a b = a ∨ mX a b = b) := by
  unfold mX
  by_cases h : a < b
  · rw [if_pos h]
    have := (iLT rfl rfl).mp h
    exact ⟨by omega, by omega, Or.inr rfl⟩
  · rw [if_neg h]
    have := mt (iLT (a := a) (b := b) rfl rfl).mpr h
    exact ⟨by omega, by omega, Or.inl rfl⟩
theorem n_greatestKey {B I : gM} {n D d : Nat} {f : Nat → Int32} (h : Bs B n D) (C : Cx B I) (hd : d < 4) (S : DS B n d f I) : ∃ v, fX9_greatestKey (nI d) I = some v ∧ (∀ t, t < n → inn B t d → (kf I d t).toInt ≤ v.toInt) ∧ (v = -1 ∨ ∃ t, t < n ∧ inn B t d ∧ kf I d t = v) ∧ -1 ≤ v.toInt := by
  have n4 : n ≤ 4 := h.1
  have key : T (lX9_greatestKey_4 (nI d) I (-1, nI 0)) (fun v => (∀ t, t < n → inn B t d → (kf I d t).toInt ≤ v.toInt) ∧ (v = -1 ∨ ∃ t, t < n ∧ inn B t d ∧ kf I d t = v) ∧ -1 ≤ v.toInt) := by
    unfold lX9_greatestKey_4
    refine t_it (P := fun s => ∃ t, s.2 = nI t ∧ t ≤ n ∧ (∀ t', t' < t → inn B t' d → (kf I d t').toInt ≤ s.1.toInt) ∧ (s.1 = -1 ∨ ∃ t', t' < n ∧ inn B t' d ∧ kf I d t' = s.1) ∧ -1 ≤ s.1.toInt) (μ := fun s => 20 - s.2.toInt.toNat) (fun s p => ?_) ⟨0, rfl, by omega, fun t' a => by omega, Or.inl rfl, by show -1 ≤ ((-1) : Int32).toInt; decide⟩
    obtain ⟨s1, s2⟩ := s
    obtain ⟨t, e1, h1, h2, h3, h4⟩ := p
    dsimp only at e1 h2 h3 h4
    subst e1
    dsimp only
    have tn : I 62 17 = nI n := C.1.trans h.2.2.1
    have mu : 20 - (nI t + 1).toInt.toNat < 20 - (nI t).toInt.toNat ∨ n ≤ t := by
      by_cases z : n ≤ t
      · exact Or.inr z
      · rw [nI_1, nIt (by omega), nIt (by omega)]; exact Or.inl (by omega)
    refine t_ite (fun c => ?_) (fun c => ?_)
    · rw [tn] at c
      have c := (nI_leI (by omega) (by omega)).mp c
      exact t_ret ⟨fun t' a b => h2 t' (by omega) b, h3, h4⟩
    · rw [tn] at c
      have c := mt (nI_leI (a := n) (b := t) (by omega) (by omega)).mpr c
      have mu := mu.resolve_right c
      by_cases q : inn B t d
      · refine t_be (n_isIn1 h C (by omega) hd q) ?_
        rw [if_neg (by decide)]
        refine t_be (S.key hd n4 (by omega) q).1 ?_
        refine t_nx ?_ mu
        dsimp only
        obtain ⟨g1, g2, g3⟩ := mX_ge (a := s1) (b := kf I d t)
        refine ⟨t + 1, nI_1 t, by omega, fun t' a b => ?_, ?_, by omega⟩
        · rcases (by omega : t' < t ∨ t' = t) with z | z
          · have := h2 t' z b; omega
          · rw [z]; exact g2
        · rcases g3 with z | z
          · rw [z]; exact h3
          · rw [z]; exact Or.inr ⟨t, by omega, q, rfl⟩
      · refine t_be (n_isIn0 h C (by omega) hd q) ?_
        rw [if_pos rfl]
        refine t_nx ?_ mu
        dsimp only
        refine ⟨t + 1, nI_1 t, by omega, fun t' a b => ?_, h3, h4⟩
        rcases (by omega : t' < t ∨ t' = t) with z | z
        · exact h2 t' z b
        · subst z; exact absurd b q
  obtain ⟨v, e, h⟩ := key
  refine ⟨v, ?_, h⟩
  unfold fX9_greatestKey
  rw [L0, e, obs]
theorem n_firstBehind {B I : gM} {n D d : Nat} {f : Nat → Int32} (h : Bs B n D) (C : Cx B I) (hd : d < 4) (S : DS B n d f I) (v : Int32) : ∃ r, fX9_firstBehind (nI d) v I = some r ∧ ((∃ t, t < n ∧ r = nI t ∧ inn B t d ∧ (kf I d t).toInt < v.toInt ∧ ∀ t', t' < t → inn B t' d → v.toInt ≤ (kf I d t').toInt) ∨ (r = -1 ∧ ∀ t, t < n → inn B t d → v.toInt ≤ (kf I d t).toInt)) := by
  have n4 : n ≤ 4 := h.1
  have key : T (lX9_firstBehind_2 (nI d) v I (nI 0)) (Sum.elim (fun r => ∃ t, t < n ∧ r = nI t ∧ inn B t d ∧ (kf I d t).toInt < v.toInt ∧ ∀ t', t' < t → inn B t' d → v.toInt ≤ (kf I d t').toInt) (fun _ : Unit => ∀ t, t < n → inn B t d → v.toInt ≤ (kf I d t).toInt)) := by
    unfold lX9_firstBehind_2
    refine t_it (P := fun s => ∃ t, s = nI t ∧ t ≤ n ∧ ∀ t', t' < t → inn B t' d → v.toInt ≤ (kf I d t').toInt) (μ := fun s => 20 - s.toInt.toNat) (fun s p => ?_) ⟨0, rfl, by omega, fun t' a => by omega⟩
    obtain ⟨t, rfl, h1, h2⟩ := p
    have tn : I 62 17 = nI n := C.1.trans h.2.2.1
    refine t_ite (fun c => ?_) (fun c => ?_)
    · rw [tn] at c
      have c := (nI_leI (by omega) (by omega)).mp c
      exact t_ret (show ∀ t, t < n → inn B t d → v.toInt ≤ (kf I d t).toInt from fun t' a b => h2 t' (by omega) b)
    · rw [tn] at c
      have c := mt (nI_leI (a := n) (b := t) (by omega) (by omega)).mpr c
      have mu : 20 - (nI t + 1).toInt.toNat < 20 - (nI t).toInt.toNat := by rw [nI_1, nIt (by omega), nIt (by omega)]; omega
      by_cases q : inn B t d
      · refine t_be (n_isIn1 h C (by omega) hd q) ?_
        rw [if_neg (by decide)]
        refine t_be (S.key hd n4 (by omega) q).1 ?_
        refine t_ite (fun c2 => ?_) (fun c2 => ?_)
        · have c2 := (iLE rfl rfl).mp c2
          refine t_nx ⟨t + 1, nI_1 t, by omega, fun t' a b => ?_⟩ mu
          rcases (by omega : t' < t ∨ t' = t) with z | z
          · exact h2 t' z b
          · rw [z]; exact c2
        · have c2 := mt (iLE (a := v) (b := kf I d t) rfl rfl).mpr c2
          exact t_ret (show ∃ t2, t2 < n ∧ nI t = nI t2 ∧ inn B t2 d ∧ (kf I d t2).toInt < v.toInt ∧ ∀ t', t' < t2 → inn B t' d → v.toInt ≤ (kf I d t').toInt from ⟨t, by omega, rfl, q, by omega, h2⟩)
      · refine t_be (n_isIn0 h C (by omega) hd q) ?_
        rw [if_pos rfl]
        refine t_nx ⟨t + 1, nI_1 t, by omega, fun t' a b => ?_⟩ mu
        rcases (by omega : t' < t ∨ t' = t) with z | z
        · exact h2 t' z b
        · subst z; exact absurd b q
  obtain ⟨r, e, h⟩ := key
  unfold fX9_firstBehind
  rw [L0, e, obs]
  rcases r with r | r
  · exact ⟨r, rfl, Or.inl h⟩
  · exact ⟨-1, rfl, Or.inr ⟨rfl, h⟩⟩
theorem n_firstIn {B I : gM} {n D d t0 : Nat} (h : Bs B n D) (C : Cx B I) (hd : d < 4) (h0 : t0 < n) (q0 : inn B t0 d) (hl : ∀ t', t' < t0 → ¬ inn B t' d) : fX9_firstIn (nI d) I = some (nI t0) := by
  have n4 : n ≤ 4 := h.1
  have key : T (lX9_firstIn_2 (nI d) I (nI 0)) (fun r => r = nI t0) := by
    unfold lX9_firstIn_2
    refine t_it (P := fun s => ∃ t, s = nI t ∧ t ≤ t0) (μ := fun s => 20 - s.toInt.toNat) (fun s p => ?_) ⟨0, rfl, by omega⟩
    obtain ⟨t, rfl, h1⟩ := p
    by_cases q : t = t0
    · subst q
      refine t_be (n_isIn1 h C (by omega) hd q0) ?_
      rw [if_neg (by decide)]
      exact t_ret (show nI t = nI t from rfl)
    · refine t_be (n_isIn0 h C (by omega) hd (hl t (by omega))) ?_
      rw [if_pos rfl]
      refine t_nx ⟨t + 1, nI_1 t, by omega⟩ ?_
      show 20 - (nI t + 1).toInt.toNat < 20 - (nI t).toInt.toNat
      rw [nI_1, nIt (by omega), nIt (by omega)]; omega
  obtain ⟨r, e, h⟩ := key
  unfold fX9_firstIn
  rw [L0, e, obs, h]
theorem n_leaps {I0 I : gM} {d t nk st : Nat} (hM : MI false I0 I) (hd : d < 4) (ht : t < 4) (v : Int32) (hn : nk ≤ 12) (e7 : I 77 (4 * d + t) = nI nk) (e8 : I 78 (4 * d + t) = nI st) (hs : st ≤ nk) : ∃ st' b r, fX9_leaps (nI d) (nI t) v I = some (b, r) ∧ MI false I0 r ∧ st ≤ st' ∧ st' ≤ nk ∧ (∀ j, st ≤ j → j < st' → (I 76 (12 * (4 * d + t) + j)).toInt < v.toInt) ∧ (st' < nk → v.toInt ≤ (I 76 (12 * (4 * d + t) + st')).toInt) ∧ ((b = 1 ∧ st' < nk) ∨ (b = 0 ∧ st' = nk)) ∧ (∀ k, k ≠ 62 → k ≠ 78 → r k = I k) ∧ (∀ j, j ≠ 27 → r 62 j = I 62 j) ∧ r 62 27 = I 62 27 + 1 ∧ ∀ j, r 78 j = if j = 4 * d + t then nI st' else I 78 j := by
  have key : T (lX9_leaps_17 v (nI (4 * d + t)) (g_up I 62 27 (I 62 27 + 1))) (fun r => ∃ st', MI false I0 r ∧ st ≤ st' ∧ st' ≤ nk ∧ (∀ j, st ≤ j → j < st' → (I 76 (12 * (4 * d + t) + j)).toInt < v.toInt) ∧ (st' < nk → v.toInt ≤ (I 76 (12 * (4 * d + t) + st')).toInt) ∧ (∀ k, k ≠ 62 → k ≠ 78 → r k = I k) ∧ (∀ j, j ≠ 27 → r 62 j = I 62 j) ∧ r 62 27 = I 62 27 + 1 ∧ ∀ j, r 78 j = if j = 4 * d + t then nI st' else I 78 j) := by
    unfold lX9_leaps_17
    refine t_it (P := fun s => ∃ s1, MI false I0 s ∧ st ≤ s1 ∧ s1 ≤ nk ∧ (∀ j, st ≤ j → j < s1 → (I 76 (12 * (4 * d + t) + j)).toInt < v.toInt) ∧ (∀ k, k ≠ 62 → k ≠ 78 → s k = I k) ∧ (∀ j, j ≠ 27 → s 62 j = I 62 j) ∧ s 62 27 = I 62 27 + 1 ∧ ∀ j, s 78 j = if j = 4 * d + t then nI s1 else I 78 j) (μ := fun s => 13 - (s 78 (4 * d + t)).toInt.toNat) (fun s p => ?_)
      ⟨st, hM.up (k := 62) rfl (lo := -2147483648) (hi := 2147483647) rfl (tTop _).1 (tTop _).2, by omega, hs, fun j a b => by omega, fun k h _ => g_up_row h, fun j hj => g_up_ne (Or.inr hj), g_up_self, fun j => by
        rw [g_up_row (by omega)]
        by_cases z : j = 4 * d + t
        · rw [if_pos z, z, e8]
        · rw [if_neg z]⟩
    obtain ⟨s1, hMs, h1, h2, h3, h4, h5, h6, h7⟩ := p
    have v78 : s 78 (4 * d + t) = nI s1 := by rw [h7, if_pos rfl]
    have v77 : s 77 (4 * d + t) = nI nk := by rw [h4 77 (by omega) (by omega), e7]
    refine t_be (rI_n (by omega) (by omega)) (t_be (rI_n (by omega) (by omega)) ?_)
    rw [v78, v77]
    refine t_ite (fun c => ?_) (fun c => ?_)
    · have c := (nI_leI (by omega) (by omega)).mp c
      exact t_ret (show ∃ st', MI false I0 s ∧ st ≤ st' ∧ st' ≤ nk ∧ (∀ j, st ≤ j → j < st' → (I 76 (12 * (4 * d + t) + j)).toInt < v.toInt) ∧ (st' < nk → v.toInt ≤ (I 76 (12 * (4 * d + t) + st')).toInt) ∧ (∀ k, k ≠ 62 → k ≠ 78 → s k = I k) ∧ (∀ j, j ≠ 27 → s 62 j = I 62 j) ∧ s 62 27 = I 62 27 + 1 ∧ ∀ j, s 78 j = if j = 4 * d + t then nI st' else I 78 j from ⟨s1, hMs, h1, h2, h3, fun z => by omega, h4, h5, h6, h7⟩)
    · have c := mt (nI_leI (a := nk) (b := s1) (by omega) (by omega)).mpr c
      refine t_be (rI_n (by omega) (by omega)) ?_
      rw [v78, a12]
      refine t_be (rI_n (by omega) (by omega)) ?_
      rw [h4 76 (by omega) (by omega)]
      refine t_ite (fun c2 => ?_) (fun c2 => ?_)
      · have c2 := (iLE rfl rfl).mp c2
        exact t_ret (show ∃ st', MI false I0 s ∧ st ≤ st' ∧ st' ≤ nk ∧ (∀ j, st ≤ j → j < st' → (I 76 (12 * (4 * d + t) + j)).toInt < v.toInt) ∧ (st' < nk → v.toInt ≤ (I 76 (12 * (4 * d + t) + st')).toInt) ∧ (∀ k, k ≠ 62 → k ≠ 78 → s k = I k) ∧ (∀ j, j ≠ 27 → s 62 j = I 62 j) ∧ s 62 27 = I 62 27 + 1 ∧ ∀ j, s 78 j = if j = 4 * d + t then nI st' else I 78 j from ⟨s1, hMs, h1, h2, h3, fun z => c2, h4, h5, h6, h7⟩)
      · have c2 := mt (iLE (a := v) (b := I 76 (12 * (4 * d + t) + s1)) rfl rfl).mpr c2
        refine t_be (rI_n (by omega) (by omega)) ?_
        rw [v78, nI_1]
        refine t_be (wI_n (by omega) (by omega)) ?_
        refine t_nx ?_ ?_
        · refine ⟨s1 + 1, hMs.up (k := 78) rfl (lo := 0) (hi := 12) rfl (by rw [tnI (by omega)]; omega) (by rw [tnI (by omega)]; omega), by omega, by omega, fun j a b => ?_, fun k y1 y2 => ?_, fun j hj => ?_, ?_, fun j => ?_⟩
          · rcases (by omega : j < s1 ∨ j = s1) with z | z
            · exact h3 j a z
            · rw [z]; omega
          · rw [g_up_row y2]; exact h4 k y1 y2
          · rw [g_up_row (by omega)]; exact h5 j hj
          · rw [g_up_row (by omega)]; exact h6
          · rw [gu_in, h7]
            by_cases z : j = 4 * d + t
            · rw [if_pos z, if_pos z]
            · rw [if_neg z, if_neg z, if_neg z]
        · show 13 - (g_up s 78 (4 * d + t) (nI (s1 + 1)) 78 (4 * d + t)).toInt.toNat < 13 - (nI s1).toInt.toNat
          rw [g_up_self, nIt (by omega), nIt (by omega)]; omega
  obtain ⟨r, e, st', h0, h1, h2, h3, h4, h5, h6, h7, h8⟩ := key
  unfold fX9_leaps
  rw [pU_n, obs, a4, e, obs]
  unfold bX9_leaps_70
  rw [rI_n (by omega) (by omega), obs, rI_n (by omega) (by omega), obs, h8, if_pos rfl, h5 77 (by omega) (by omega), e7]
  by_cases z : nk ≤ st'
  · rw [if_pos ((nI_leI (by omega) (by omega)).mpr z)]
    exact ⟨st', 0, r, rfl, h0, h1, h2, h3, h4, Or.inr ⟨rfl, by omega⟩, h5, h6, h7, h8⟩
  · rw [if_neg (mt (nI_leI (a := nk) (b := st') (by omega) (by omega)).mp z)]
    exact ⟨st', 1, r, rfl, h0, h1, h2, h3, h4, Or.inl ⟨rfl, by omega⟩, h5, h6, h7, h8⟩
end P_27d_goes9
section P_27e_goes9
/-! the reference's join: the search as a whole -/
/-- a number that each table of a depth has -/
def GV (B : gM) (n e : Nat) (v : Int32) : Prop := ∀ t, t < n → inn B t e → ∃ i, i < mn B t ∧ vl B t i e = v
theorem n_takesRow {I0 I : gM} {J : Nat} (hM : MI false I0 I) (hJ : J < 20736) (e : I 62 26 = nI J) : ∃ r, fX9_takesRow I = some r ∧ MI false I0 r ∧ r 62 26 = nI (J + 1) ∧ (∀ l, l < 4 → r 80 (4 * J + l) = I 75 l) ∧ (∀ a, (a < 4 * J ∨ 4 * J + 4 ≤ a) → r 80 a = I 80 a) ∧ (∀ k, k ≠ 80 → k ≠ 62 → r k = I k) ∧ ∀ j, j ≠ 26 → r 62 j = I 62 j := by
  have key : T (lX9_takesRow_2 (nI 0, I)) (fun w => MI false I0 w ∧ (∀ l, l < 4 → w 80 (4 * J + l) = I 75 l) ∧ (∀ a, (a < 4 * J ∨ 4 * J + 4 ≤ a) → w 80 a = I 80 a) ∧ (∀ k, k ≠ 80 → w k = I k)) := by
    unfold lX9_takesRow_2
    refine t_it (P := fun s => ∃ l, s.1 = nI l ∧ l ≤ 4 ∧ MI false I0 s.2 ∧ (∀ l', l' < l → s.2 80 (4 * J + l') = I 75 l') ∧ (∀ a, (a < 4 * J ∨ 4 * J + 4 ≤ a) → s.2 80 a = I 80 a) ∧ (∀ k, k ≠ 80 → s.2 k = I k)) (μ := fun s => 20 - s.1.toInt.toNat) (fun s p => ?_) ⟨0, rfl, by omega, hM, fun l a => by omega, fun _ _ => rfl, fun _ _ => rfl⟩
    obtain ⟨s1, s2⟩ := s
    obtain ⟨l, e1, h1, hM2, h2, h3, h4⟩ := p
    dsimp only at e1 hM2 h2 h3 h4
    subst e1
    dsimp only
    refine t_ite (fun c => ?_) (fun c => ?_)
    · have c := (nI_leI (a := 4) (by omega) (by omega)).mp c
      exact t_ret ⟨hM2, fun l' a => h2 l' (by omega), h3, h4⟩
    · have c := mt (nI_leI (a := 4) (b := l) (by omega) (by omega)).mpr c
      refine t_be (rI_n (by omega) (by omega)) ?_
      rw [h4 62 (by omega), e, a4]
      refine t_be (wI_n (by omega) (by omega)) ?_
      have hv : -1 ≤ (s2 75 l).toInt ∧ (s2 75 l).toInt ≤ 99 := hM2.at (k := 75) (j := l) rfl
      refine t_nx ?_ (by show 20 - (nI l + 1).toInt.toNat < 20 - (nI l).toInt.toNat; rw [nI_1, nIt (by omega), nIt (by omega)]; omega)
      dsimp only
      refine ⟨l + 1, nI_1 l, by omega, hM2.up (k := 80) rfl (lo := -1) (hi := 99) rfl hv.1 hv.2, fun l' a => ?_, fun a ha => ?_, fun k hk => ?_⟩
      · rw [gu_in]
        by_cases z : l' = l
        · rw [if_pos (by omega), z, h4 75 (by omega)]
        · rw [if_neg (by omega)]; exact h2 l' (by omega)
      · rw [gu_in, if_neg (by omega)]; exact h3 a ha
      · rw [g_up_row hk]; exact h4 k hk
  obtain ⟨w, ew, w1, w2, w3, w4⟩ := key
  have e2 : w 62 26 + 1 = nI (J + 1) := by rw [w4 62 (by omega), e, nI_1]
  refine ⟨g_up w 62 26 (nI (J + 1)), ?_, w1.up (k := 62) rfl (lo := 0) (hi := 20736) rfl (by rw [tnI (by omega)]; omega) (by rw [tnI (by omega)]; omega), g_up_self, fun l hl => ?_, fun a ha => ?_, fun k y1 y2 => ?_, fun j hj => ?_⟩
  · unfold fX9_takesRow
    rw [L0, ew, obs, e2, pU_n, obs]
  · rw [g_up_row (by omega)]; exact w2 l hl
  · rw [g_up_row (by omega)]; exact w3 a ha
  · rw [g_up_row y2]; exact w4 k y1
  · rw [g_up_ne (Or.inr hj), w4 62 (by omega)]
theorem Cx.of {B I r : gM} (C : Cx B I) (h17 : r 62 17 = I 62 17) (h19 : r 62 19 = I 62 19) (h : ∀ k, k = 70 ∨ k = 72 ∨ k = 73 ∨ k = 74 → r k = I k) : Cx B r := by
  obtain ⟨c1, c2, c3, c4, c5, c6⟩ := C
  exact ⟨h17.trans c1, h19.trans c2, (h 70 (by omega)).trans c3, (h 72 (by omega)).trans c4, (h 73 (by omega)).trans c5, (h 74 (by omega)).trans c6⟩
/-- what is left to go -/
def mu9 (I : gM) (d : Nat) : Nat := (13 - stf I d 0) + (13 - stf I d 1) + (13 - stf I d 2) + (13 - stf I d 3)
theorem mu9_lt {I r : gM} {d t st' : Nat} (ht : t < 4) (h : ∀ j, j < 4 → stf r d j = if j = t then st' else stf I d j) (h1 : stf I d t < st') (h2 : stf I d t ≤ 12) : mu9 r d < mu9 I d := by
  have a0 := h 0 (by omega)
  have a1 := h 1 (by omega)
  have a2 := h 2 (by omega)
  have a3 := h 3 (by omega)
  unfold mu9
  rcases (by omega : t = 0 ∨ t = 1 ∨ t = 2 ∨ t = 3) with rfl | rfl | rfl | rfl
  · rw [if_pos rfl] at a0; rw [if_neg (by omega)] at a1 a2 a3; omega
  · rw [if_pos rfl] at a1; rw [if_neg (by omega)] at a0 a2 a3; omega
  · rw [if_pos rfl] at a2; rw [if_neg (by omega)] at a0 a1 a3; omega
  · rw [if_pos rfl] at a3; rw [if_neg (by omega)] at a0 a1 a2; omega
/-- a table goes on: what all tables of the depth then stand at -/
theorem n_leaps2 {I0 B I : gM} {n D d t : Nat} {f : Nat → Int32} (h : Bs B n D) (hM : MI false I0 I) (C : Cx B I) (hd : d < 4) (S : DS B n d f I) (ht : t < n) (q : inn B t d) (v : Int32) (hv : (kf I d t).toInt < v.toInt) : ∃ b r, fX9_leaps (nI d) (nI t) v I = some (b, r) ∧ MI false I0 r ∧ Cx B r ∧ ((b = 1 ∧ DS B n d f r) ∨ b = 0) ∧ mu9 r d < mu9 I d ∧ stf I d t < stf r d t ∧ stf r d t ≤ 12 ∧ (∀ j, j < 4 → j ≠ t → stf r d j = stf I d j) ∧ (∀ k, k ≠ 62 → k ≠ 78 → r k = I k) ∧ (∀ j, j ≠ 27 → r 62 j = I 62 j) ∧ (∀ c, c < 4 * d → r 78 c = I 78 c) ∧ r 62 27 = I 62 27 + 1 ∧ ∀ j, j < nkf I d t → v.toInt ≤ (I 76 (12 * (4 * d + t) + j)).toInt → b = 1 ∧ (kf r d t).toInt ≤ (I 76 (12 * (4 * d + t) + j)).toInt := by
  have n4 : n ≤ 4 := h.1
  obtain ⟨s1, s2, s3⟩ := S t ht q
  have k12 := s1.1
  obtain ⟨st', b, r, e, r0, r1, r2, r3, r4, r5, r6, r7, r8, r9⟩ := n_leaps hM hd (by omega) v k12 s1.2.1 s3 (Nat.le_of_lt s2)
  have lt : stf I d t < st' := by
    rcases (by omega : stf I d t < st' ∨ stf I d t = st') with z | z
    · exact z
    · have := r4 (by omega)
      rw [← z] at this
      exact absurd hv (by show ¬ (I 76 (12 * (4 * d + t) + stf I d t)).toInt < _; omega)
  have sf : ∀ j, j < 4 → stf r d j = if j = t then st' else stf I d j := fun j hj => by
    unfold stf
    rw [r9]
    by_cases z : j = t
    · rw [if_pos (by omega), if_pos z, nIt (by omega)]
    · rw [if_neg (by omega), if_neg z]
  have C2 : Cx B r := C.of (r7 17 (by omega)) (r7 19 (by omega)) (fun k hk => r6 k (by omega) (by omega))
  have st : stf r d t = st' := by rw [sf t (by omega), if_pos rfl]
  refine ⟨b, r, e, r0, C2, ?_, mu9_lt (by omega) sf lt (by omega), by omega, by omega, fun j a z => by rw [sf j a, if_neg z], r6, r7, fun c hc => by rw [r9, if_neg (by omega)], r8, fun j hj hvj => ?_⟩
  · rcases r5 with ⟨b1, z⟩ | ⟨b0, z⟩
    rotate_left
    · exact Or.inr b0
    refine Or.inl ⟨b1, fun t' a y => ?_⟩
    obtain ⟨u1, u2, u3⟩ := S t' a y
    have nk : nkf r d t' = nkf I d t' := by unfold nkf; rw [r6 77 (by omega) (by omega)]
    refine ⟨?_, ?_, ?_⟩
    · rw [nk]; exact u1.same (by rw [r6 77 (by omega) (by omega)]) (fun j _ => by rw [r6 76 (by omega) (by omega)])
    · rw [nk, sf t' (by omega)]
      by_cases x : t' = t
      · rw [if_pos x, x]; exact z
      · rw [if_neg x]; exact u2
    · rw [r9, sf t' (by omega)]
      by_cases x : t' = t
      · rw [if_pos (by omega), if_pos x]
      · rw [if_neg (by omega), if_neg x]; exact u3
  · have hst : st' ≤ j := by
      rcases (by omega : st' ≤ j ∨ j < st') with z | z
      · exact z
      · exfalso
        rcases (by omega : stf I d t ≤ j ∨ j < stf I d t) with y | y
        · have := r3 j y z; omega
        · have := s1.2.2.1 j (stf I d t) y s2
          have hv : (I 76 (12 * (4 * d + t) + stf I d t)).toInt < v.toInt := hv
          omega
    refine ⟨?_, ?_⟩
    · rcases r5 with ⟨b1, _⟩ | ⟨_, z⟩
      · exact b1
      · omega
    · unfold kf
      rw [st, r6 76 (by omega) (by omega)]
      rcases (by omega : st' = j ∨ st' < j) with z | z
      · rw [z]; exact Int.le_refl _
      · have := s1.2.2.1 st' j z hj; omega
/-- the letters of the depths are unlike, each is asked -/
def Dp (B : gM) (n D : Nat) : Prop := (∀ d e, d < D → e < D → d ≠ e → lo B d ≠ lo B e) ∧ ∀ d, d < D → ∃ t, t < n ∧ inn B t d
theorem least {P : Nat → Prop} : ∀ {n : Nat}, (∃ t, t < n ∧ P t) → ∃ t, t < n ∧ P t ∧ ∀ t', t' < t → ¬ P t' := by
  intro n
  induction n with
  | zero => rintro ⟨t, h, _⟩; omega
  | succ n ih =>
    rintro ⟨t, h, p⟩
    by_cases z : ∃ t, t < n ∧ P t
    · obtain ⟨t', a, b, c⟩ := ih z
      exact ⟨t', by omega, b, c⟩
    · refine ⟨t, h, p, fun t' a b => z ⟨t', by omega, b⟩⟩
/-- numbers for the depths from d on that each table has together with those ahead -/
def Cs (B : gM) (n D d : Nat) (g : Nat → Int32) : Prop := ∀ e, d ≤ e → e < D → ∀ t, t < n → inn B t e → ∃ i, i < mn B t ∧ (∀ e', e' < e → cv B t e' = -1 ∨ vl B t i e' = g e') ∧ vl B t i e = g e
/-- what the search of a depth leaves -/
def GQ (I0 B : gM) (n D d J0 M : Nat) (I r : gM) : Prop := MI false I0 r ∧ Cx B r ∧ (∃ J, r 62 26 = nI J ∧ J0 ≤ J ∧ J ≤ M ∧ (∀ j, J0 ≤ j → j < J → ∀ e, e < D → GV B n e (r 80 (4 * j + lo B e))) ∧ (∀ j, J0 ≤ j → j < J → (∀ e, e < d → r 80 (4 * j + lo B e) = I 75 (lo B e)) ∧ Cs B n D d (fun e => r 80 (4 * j + lo B e))) ∧ ∀ g : Nat → Int32, (∀ e, e < d → g e = I 75 (lo B e)) → Cs B n D d g → J0 < J) ∧ (∀ a, a < 4 * J0 → r 80 a = I 80 a) ∧ (∀ e, e < d → r 75 (lo B e) = I 75 (lo B e)) ∧ (∀ c, c < 4 * d → r 77 c = I 77 c ∧ r 78 c = I 78 c) ∧ ∀ a, a < 48 * d → r 76 a = I 76 a
theorem n_goes {I0 B : gM} {n D : Nat} (h : Bs B n D) (hD : Dp B n D) : ∀ (fu d : Nat), d ≤ D → D < fu + d → ∀ (I : gM) (J0 : Nat), MI false I0 I → Cx B I → I 62 26 = nI J0 → J0 + 12 ^ (D - d) ≤ 20736 → (∀ e, e < d → GV B n e (I 75 (lo B e))) → T (fX9_goes fu (nI d) I) (GQ I0 B n D d J0 (J0 + 12 ^ (D - d)) I) := by
  have n4 : n ≤ 4 := h.1
  have D4 : D ≤ 4 := h.2.1
  intro fu
  induction fu with
  | zero => intro d h1 h2; omega
  | succ fu ih =>
    intro d h1 h2 I J0 hM C eJ hJ hG
    show T (fX9_goesB (fun d I => fX9_goes fu d I) (nI d) I) _
    unfold fX9_goesB
    have eD : I 62 19 = nI D := C.2.1.trans h.2.2.2.1
    refine t_ite (fun c => ?_) (fun c => ?_)
    · rw [eD] at c
      obtain rfl := nI_inj c (by omega) (by omega)
      have p1 : 12 ^ (d - d) = 1 := by rw [Nat.sub_self]
      rw [p1] at hJ ⊢
      obtain ⟨r, e, r1, r2, r3, r4, r5, r6⟩ := n_takesRow hM (by omega) eJ
      refine t_be e (t_ret ⟨r1, C.of (r6 17 (by omega)) (r6 19 (by omega)) (fun k hk => r5 k (by omega) (by omega)), ⟨J0 + 1, r2, by omega, by omega, fun j a b e he => ?_, fun j a b => ⟨fun e he => ?_, fun e h1 h2 => by omega⟩, fun _ _ _ => by omega⟩, fun a ha => r4 a (Or.inl ha), fun e _ => by rw [r5 75 (by omega) (by omega)], fun c _ => ⟨by rw [r5 77 (by omega) (by omega)], by rw [r5 78 (by omega) (by omega)]⟩, fun a _ => by rw [r5 76 (by omega) (by omega)]⟩)
      · obtain rfl : j = J0 := by omega
        rw [r3 _ (bs_lo h (d := e) (by omega)).1]
        exact hG e he
      · obtain rfl : j = J0 := by omega
        exact r3 _ (bs_lo h (d := e) (by omega)).1
    · rw [eD] at c
      have dD : d < D := by
        rcases (by omega : d < D ∨ d = D) with z | z
        · exact z
        · exact absurd (by rw [z]) c
      obtain ⟨t0, t1, t2, t3⟩ := least (hD.2 d dD)
      obtain ⟨v, r2, e2, v01, M2, C2, K2, K20, F2, F3, F4⟩ := n_laysKeys h hM C (d := d) (by omega)
      refine t_be e2 ?_
      dsimp only
      obtain ⟨W, hW⟩ : ∃ W, W = 12 ^ (D - (d + 1)) := ⟨_, rfl⟩
      have W12 : 12 ^ (D - d) = 12 * W := by rw [hW, show D - d = D - (d + 1) + 1 by omega, Nat.pow_succ, Nat.mul_comm]
      have f75 : r2 75 = I 75 := F2 75 (by omega) (by omega) (by omega)
      refine t_bind (P := GQ I0 B n D d J0 (J0 + 12 ^ (D - d)) I) ?_ (fun r hr => t_ret hr)
      unfold lX9_goes_19
      refine t_it (P := fun s => MI false I0 s.2 ∧ Cx B s.2 ∧ (∃ J, s.2 62 26 = nI J ∧ J0 ≤ J ∧ (∀ j, J0 ≤ j → j < J → ∀ e, e < D → GV B n e (s.2 80 (4 * j + lo B e))) ∧ (∀ j, J0 ≤ j → j < J → (∀ e, e < d → s.2 80 (4 * j + lo B e) = I 75 (lo B e)) ∧ Cs B n D d (fun e => s.2 80 (4 * j + lo B e))) ∧ (∀ g : Nat → Int32, (∀ e, e < d → g e = I 75 (lo B e)) → Cs B n D d g → J0 < J ∨ (s.1 = 1 ∧ ∀ t, t < n → inn B t d → (kf s.2 d t).toInt ≤ (g d).toInt)) ∧ ((s.1 = 1 ∧ DS B n d (I 75) s.2 ∧ J ≤ J0 + W * stf s.2 d t0) ∨ (s.1 = 0 ∧ J ≤ J0 + 12 * W))) ∧ (∀ a, a < 4 * J0 → s.2 80 a = I 80 a) ∧ (∀ e, e < d → s.2 75 (lo B e) = I 75 (lo B e)) ∧ (∀ c, c < 4 * d → s.2 77 c = I 77 c ∧ s.2 78 c = I 78 c) ∧ ∀ a, a < 48 * d → s.2 76 a = I 76 a) (μ := fun s => mu9 s.2 d) (fun s p => ?_)
        ⟨M2, C2, ⟨J0, by show r2 62 26 = _; rw [F2 62 (by omega) (by omega) (by omega)]; exact eJ, by omega, fun j a b => by omega, fun j a b => by omega, ?_, ?_⟩, fun a _ => by show r2 80 a = _; rw [F2 80 (by omega) (by omega) (by omega)], fun e _ => by show r2 75 _ = _; rw [f75], F3, F4⟩
      · obtain ⟨b, I1⟩ := s
        obtain ⟨M3, C3, ⟨J, eJ1, J1, GJ, GC, GX, hb⟩, G1, G2, G3, G4⟩ := p
        dsimp only at M3 C3 eJ1 GJ GC GX hb G1 G2 G3 G4
        dsimp only
        refine t_ite (fun c1 => ?_) (fun c1 => ?_)
        · refine t_ret ⟨M3, C3, ⟨J, eJ1, J1, ?_, GJ, GC, fun g g1 g2 => ?_⟩, G1, G2, G3, G4⟩
          · rcases hb with ⟨z, _⟩ | ⟨_, z⟩
            · rw [z] at c1; exact absurd c1 (by decide)
            · omega
          · rcases GX g g1 g2 with z | ⟨z, _⟩
            · exact z
            · rw [z] at c1; exact absurd c1 (by decide)
        · obtain ⟨b1, S, JW⟩ : b = 1 ∧ DS B n d (I 75) I1 ∧ J ≤ J0 + W * stf I1 d t0 := hb.resolve_right (fun z => c1 z.1)
          obtain ⟨g, eg, g1, g2, g3⟩ := n_greatestKey h C3 (by omega) S
          obtain ⟨fb, ef, f1⟩ := n_firstBehind h C3 (by omega) S g
          have s12 : stf I1 d t0 < 12 := by
            obtain ⟨u1, u2, u3⟩ := S t0 t1 t2
            have := u1.1
            omega
          have dHas : ∀ g : Nat → Int32, (∀ e, e < d → g e = I 75 (lo B e)) → Cs B n D d g → ∀ t, t < n → inn B t d → ∃ j, j < nkf I1 d t ∧ I1 76 (12 * (4 * d + t) + j) = g d := fun g g1 g2 t a q => by
            obtain ⟨u1, _, _⟩ := S t a q
            obtain ⟨i, i1, i2, i3⟩ := g2 d (by omega) dD t a q
            refine (u1.2.2.2 (g d)).mp ⟨i, i1, fun e he => ?_, i3⟩
            rcases i2 e he with y | y
            · exact Or.inl y
            · exact Or.inr (y.trans (g1 e he))
          refine t_be eg (t_be ef ?_)
          refine t_ite (fun c2 => ?_) (fun c2 => ?_)
          · -- all stand at one key
            have all : ∀ t, t < n → inn B t d → (kf I1 d t).toInt = g.toInt := fun t a q => by
              rcases f1 with ⟨t', y1, y2, y3, y4, y5⟩ | ⟨y1, y2⟩
              · exact absurd (y2.symm.trans c2) (nI_m1 (by omega))
              · have := g1 t a q
                have := y2 t a q
                omega
            have allg : ∀ t, t < n → inn B t d → kf I1 d t = g := fun t a q => Int32.toInt_inj.mp (all t a q)
            have gv : GV B n d g := fun t a q => by
              obtain ⟨i, i1, i2, i3⟩ := (S.key (by omega) n4 a q).2
              exact ⟨i, i1, i3.trans (allg t a q)⟩
            have g99 : g.toInt ≤ 99 := by
              obtain ⟨i, i1, i3⟩ := gv t0 t1 t2
              rw [← i3]
              exact (vl_rg h M3 C3 (by omega) (by have := (bs_mn h (t := t0) (by omega)).1; omega) t2.2).2
            obtain ⟨l4, le⟩ := bs_lo h (d := d) (by omega)
            refine t_be (rI_n (by omega) (by omega)) ?_
            rw [C3.2.2.2.2.2, le]
            refine t_be (wI_n (by omega) (by omega)) ?_
            rw [nI_1]
            refine t_be (rI_n (by omega) (by omega)) (t_be (wI_n (by omega) (by omega)) ?_)
            have M5 : MI false I0 (g_up (g_up I1 75 (lo B d) g) 79 (d + 1) (g_up I1 75 (lo B d) g 79 (d + 1) + 1)) := (M3.up (k := 75) rfl (lo := -1) (hi := 99) rfl g3 g99).up (k := 79) rfl (lo := -2147483648) (hi := 2147483647) rfl (tTop _).1 (tTop _).2
            have C5 : Cx B (g_up (g_up I1 75 (lo B d) g) 79 (d + 1) (g_up I1 75 (lo B d) g 79 (d + 1) + 1)) := (C3.up (by omega) (by omega) (by omega) (by omega) (by omega)).up (by omega) (by omega) (by omega) (by omega) (by omega)
            have z5 : ∀ k, k ≠ 75 → k ≠ 79 → g_up (g_up I1 75 (lo B d) g) 79 (d + 1) (g_up I1 75 (lo B d) g 79 (d + 1) + 1) k = I1 k := fun k y1 y2 => by rw [g_up_row y2, g_up_row y1]
            have f5 : ∀ j, g_up (g_up I1 75 (lo B d) g) 79 (d + 1) (g_up I1 75 (lo B d) g 79 (d + 1) + 1) 75 j = if j = lo B d then g else I1 75 j := fun j => by rw [g_up_row (by omega), gu_in]
            generalize g_up (g_up I1 75 (lo B d) g) 79 (d + 1) (g_up I1 75 (lo B d) g 79 (d + 1) + 1) = I5 at *
            have JB : J + 12 ^ (D - (d + 1)) ≤ 20736 := by
              rw [← hW]
              have : W * stf I1 d t0 + W ≤ 12 * W := by rw [← Nat.mul_succ, Nat.mul_comm]; exact Nat.mul_le_mul_right _ (by omega)
              omega
            refine t_bind (ih (d + 1) (by omega) (by omega) I5 J M5 C5 (by rw [z5 62 (by omega) (by omega)]; exact eJ1) JB (fun e he => ?_)) (fun r9 p9 => ?_)
            · rw [f5]
              rcases (by omega : e < d ∨ e = d) with z | z
              · rw [if_neg (hD.1 e d (by omega) dD (by omega)), G2 e z]; exact hG e z
              · rw [z, if_pos rfl]; exact gv
            · obtain ⟨M9, C9, ⟨J', eJ', J9, J9', G9, GC9, GX9⟩, H1, H2, H3, H4⟩ := p9
              refine t_be (rI_n (by omega) (by omega)) ?_
              rw [C9.2.2.2.2.2, le]
              refine t_be (wI_n (by omega) (by omega)) ?_
              have M11 : MI false I0 (g_up r9 75 (lo B d) (-1)) := M9.up (k := 75) rfl (lo := -1) (hi := 99) rfl (by decide) (by decide)
              have C11 : Cx B (g_up r9 75 (lo B d) (-1)) := C9.up (by omega) (by omega) (by omega) (by omega) (by omega)
              have z11 : ∀ k, k ≠ 75 → g_up r9 75 (lo B d) (-1) k = r9 k := fun k y => g_up_row y
              have f11 : ∀ e, e < d → g_up r9 75 (lo B d) (-1) 75 (lo B e) = I 75 (lo B e) := fun e he => by
                rw [g_up_ne (Or.inr (hD.1 e d (by omega) dD (by omega))), H2 e (by omega), f5, if_neg (hD.1 e d (by omega) dD (by omega)), G2 e he]
              generalize g_up r9 75 (lo B d) (-1) = I11 at *
              refine t_be (n_firstIn h C11 (by omega) t1 t2 t3) ?_
              have c7 : ∀ t, t < 4 → I11 77 (4 * d + t) = I1 77 (4 * d + t) ∧ I11 78 (4 * d + t) = I1 78 (4 * d + t) := fun t a => by
                rw [z11 77 (by omega), z11 78 (by omega)]
                have := H3 (4 * d + t) (by omega)
                rw [this.1, this.2, z5 77 (by omega) (by omega), z5 78 (by omega) (by omega)]; exact ⟨rfl, rfl⟩
              have sf : ∀ t, t < 4 → stf I11 d t = stf I1 d t ∧ nkf I11 d t = nkf I1 d t := fun t a => by
                unfold stf nkf
                rw [(c7 t a).1, (c7 t a).2]; exact ⟨rfl, rfl⟩
              have c6 : ∀ a, a < 48 * (d + 1) → I11 76 a = I1 76 a := fun a ha => by
                rw [z11 76 (by omega), H4 a ha, z5 76 (by omega) (by omega)]
              have S11 : DS B n d (I 75) I11 := fun t a q => by
                obtain ⟨u1, u2, u3⟩ := S t a q
                rw [(sf t (by omega)).1, (sf t (by omega)).2]
                exact ⟨u1.same (c7 t (by omega)).1 (fun j hj => c6 _ (by omega)), u2, (c7 t (by omega)).2.trans u3⟩
              have kv : kf I11 d t0 = g := by
                rw [← allg t0 t1 t2]
                unfold kf
                rw [(sf t0 (by omega)).1]
                exact c6 _ (by have := (S t0 t1 t2).1.1; omega)
              have gp : (g + 1).toInt = g.toInt + 1 := tA rfl (by decide : (1 : Int32).toInt = 1) (by omega) (by omega)
              obtain ⟨b', r, er, M12, C12, S12, mu, sl, s12', so, x1, x2, x3, x4, x5⟩ := n_leaps2 h M11 C11 (by omega) S11 t1 t2 (g + 1) (by rw [kv, gp]; omega)
              refine t_be er ?_
              unfold bX9_goes_112
              have mu' : mu9 I11 d = mu9 I1 d := by
                unfold mu9
                rw [(sf 0 (by omega)).1, (sf 1 (by omega)).1, (sf 2 (by omega)).1, (sf 3 (by omega)).1]
              refine t_nx ?_ (by show mu9 r d < mu9 I1 d; omega)
              dsimp only
              have JW' : J' ≤ J0 + W * stf r d t0 := by
                rw [← hW] at J9'
                have y : W * (stf I1 d t0 + 1) ≤ W * stf r d t0 := Nat.mul_le_mul_left _ (by rw [(sf t0 (by omega)).1] at sl; omega)
                rw [Nat.mul_succ] at y
                omega
              refine ⟨M12, C12, ⟨J', by rw [x2 26 (by omega), z11 62 (by omega)]; exact eJ', by omega, fun j a b e he => ?_, fun j a b => ?_, fun g' p1 p2 => ?_, ?_⟩, fun a ha => ?_, fun e he => ?_, fun c hc => ?_, fun a ha => ?_⟩
              · rw [x1 80 (by omega) (by omega), z11 80 (by omega)]
                rcases (by omega : j < J ∨ J ≤ j) with z | z
                · have l4 := (bs_lo h (d := e) (by omega)).1
                  rw [H1 _ (by omega), z5 80 (by omega) (by omega)]; exact GJ j a z e he
                · exact G9 j z b e he
              · have e80 : r 80 = r9 80 := by rw [x1 80 (by omega) (by omega), z11 80 (by omega)]
                rw [e80]
                rcases (by omega : j < J ∨ J ≤ j) with z | z
                · obtain ⟨y1, y2⟩ := GC j a z
                  have old : ∀ e, e < D → r9 80 (4 * j + lo B e) = I1 80 (4 * j + lo B e) := fun e he => by
                    have l4 := (bs_lo h (d := e) (by omega)).1
                    rw [H1 _ (by omega), z5 80 (by omega) (by omega)]
                  refine ⟨fun e he => (old e (by omega)).trans (y1 e he), fun e h1 h2 t ht q => ?_⟩
                  obtain ⟨i, i1, i2, i3⟩ := y2 e h1 h2 t ht q
                  refine ⟨i, i1, fun e' he' => ?_, i3.trans (old e h2).symm⟩
                  rcases i2 e' he' with w | w
                  · exact Or.inl w
                  · exact Or.inr (w.trans (old e' (by omega)).symm)
                · obtain ⟨y1, y2⟩ := GC9 j z b
                  have pf : ∀ e, e < d → r9 80 (4 * j + lo B e) = I 75 (lo B e) := fun e he => by
                    rw [y1 e (by omega), f5, if_neg (hD.1 e d (by omega) dD (by omega)), G2 e he]
                  have pd : r9 80 (4 * j + lo B d) = g := by rw [y1 d (by omega), f5, if_pos rfl]
                  refine ⟨pf, fun e h1 h2 t ht q => ?_⟩
                  rcases (by omega : e = d ∨ d + 1 ≤ e) with w | w
                  · subst w
                    obtain ⟨i, i1, i2, i3⟩ := (S.key (by omega) n4 ht q).2
                    refine ⟨i, i1, fun e' he' => ?_, (i3.trans (allg t ht q)).trans pd.symm⟩
                    rcases i2 e' he' with v | v
                    · exact Or.inl v
                    · exact Or.inr (v.trans (pf e' he').symm)
                  · exact y2 e w h2 t ht q
              · rcases GX g' p1 p2 with z | ⟨_, z⟩
                · exact Or.inl (by omega)
                · have le : g.toInt ≤ (g' d).toInt := by rw [← allg t0 t1 t2]; exact z t0 t1 t2
                  by_cases eq : g = g' d
                  · refine Or.inl ?_
                    have : J < J' := GX9 g' (fun e he => by
                      rw [f5]
                      rcases (by omega : e < d ∨ e = d) with w | w
                      · rw [if_neg (hD.1 e d (by omega) dD (by omega)), G2 e w]; exact p1 e w
                      · rw [w, if_pos rfl]; exact eq.symm) (fun e h1 h2 => p2 e (by omega) h2)
                    omega
                  · have lt : g.toInt < (g' d).toInt := by
                      have : ¬ g.toInt = (g' d).toInt := fun w => eq (Int32.toInt_inj.mp w)
                      omega
                    obtain ⟨j0, j1, j2⟩ := dHas g' p1 p2 t0 t1 t2
                    have j2' : I11 76 (12 * (4 * d + t0) + j0) = g' d := by
                      have := (S t0 t1 t2).1.1
                      rw [c6 _ (by omega)]; exact j2
                    obtain ⟨w1, w2⟩ := x5 j0 (by rw [(sf t0 (by omega)).2]; exact j1) (by rw [j2', gp]; omega)
                    refine Or.inr ⟨w1, fun t a q => ?_⟩
                    by_cases y : t = t0
                    · rw [y, ← j2']; exact w2
                    · rw [show kf r d t = kf I11 d t by unfold kf; rw [so t (by omega) y, x1 76 (by omega) (by omega)]]
                      have e1 : kf I11 d t = kf I1 d t := by
                        unfold kf
                        have := (S t a q).1.1
                        rw [(sf t (by omega)).1]
                        exact c6 _ (by have := (S t a q).2.1; omega)
                      rw [e1]; exact z t a q
              · rcases S12 with ⟨y1, y2⟩ | y1
                · exact Or.inl ⟨y1, y2, JW'⟩
                · refine Or.inr ⟨y1, ?_⟩
                  have : W * stf r d t0 ≤ 12 * W := by rw [Nat.mul_comm]; exact Nat.mul_le_mul_right _ s12'
                  omega
              · rw [x1 80 (by omega) (by omega), z11 80 (by omega), H1 a (by omega), z5 80 (by omega) (by omega)]; exact G1 a ha
              · rw [x1 75 (by omega) (by omega)]; exact f11 e he
              · rw [x1 77 (by omega) (by omega), x3 c hc, z11 77 (by omega), z11 78 (by omega), (H3 c (by omega)).1, (H3 c (by omega)).2, z5 77 (by omega) (by omega), z5 78 (by omega) (by omega)]; exact G3 c hc
              · rw [x1 76 (by omega) (by omega), c6 a (by omega)]; exact G4 a ha
          · -- one is behind
            obtain ⟨t, y1, y2, y3, y4, y5⟩ := f1.resolve_right (fun z => c2 z.1)
            subst y2
            obtain ⟨b', r, er, M12, C12, S12, mu, sl, s12', so, x1, x2, x3, x4, x5⟩ := n_leaps2 h M3 C3 (by omega) S y1 y3 g y4
            refine t_be er ?_
            unfold bX9_goes_112
            refine t_nx ?_ mu
            dsimp only
            have s0 : stf I1 d t0 ≤ stf r d t0 := by
              by_cases z : t0 = t
              · subst z; omega
              · rw [so t0 (by omega) z]; exact Nat.le_refl _
            have s0' : stf r d t0 ≤ 12 := by
              by_cases z : t0 = t
              · subst z; exact s12'
              · rw [so t0 (by omega) z]; omega
            have JW' : J ≤ J0 + W * stf r d t0 := by
              have y : W * stf I1 d t0 ≤ W * stf r d t0 := Nat.mul_le_mul_left _ s0
              omega
            refine ⟨M12, C12, ⟨J, by rw [x2 26 (by omega)]; exact eJ1, by omega, fun j a b e he => ?_, fun j a b => ?_, fun g' p1 p2 => ?_, ?_⟩, fun a ha => ?_, fun e he => ?_, fun c hc => ?_, fun a ha => ?_⟩
            · rw [x1 80 (by omega) (by omega)]; exact GJ j a b e he
            · rw [x1 80 (by omega) (by omega)]; exact GC j a b
            · rcases GX g' p1 p2 with z | ⟨_, z⟩
              · exact Or.inl z
              · have gle : g.toInt ≤ (g' d).toInt := by
                  rcases g2 with w | ⟨t', w1, w2, w3⟩
                  · obtain ⟨i, i1, i2, i3⟩ := (S.key (by omega) n4 y1 y3).2
                    have lo1 := (vl_rg h M3 C3 (t := t) (i := i) (by omega) (by have := (bs_mn h (t := t) (by omega)).1; omega) y3.2).1
                    rw [i3] at lo1
                    have m1 : ((-1) : Int32).toInt = -1 := by decide
                    rw [w, m1] at y4
                    omega
                  · rw [← w3]; exact z t' w1 w2
                obtain ⟨j0, j1, j2⟩ := dHas g' p1 p2 t y1 y3
                obtain ⟨w1, w2⟩ := x5 j0 j1 (by rw [j2]; exact gle)
                refine Or.inr ⟨w1, fun t' a q => ?_⟩
                by_cases y : t' = t
                · rw [y, ← j2]; exact w2
                · rw [show kf r d t' = kf I1 d t' by unfold kf; rw [so t' (by omega) y, x1 76 (by omega) (by omega)]]
                  exact z t' a q
            · rcases S12 with ⟨z1, z2⟩ | z1
              · exact Or.inl ⟨z1, z2, JW'⟩
              · refine Or.inr ⟨z1, ?_⟩
                have : W * stf r d t0 ≤ 12 * W := by rw [Nat.mul_comm]; exact Nat.mul_le_mul_right _ s0'
                omega
            · rw [x1 80 (by omega) (by omega)]; exact G1 a ha
            · rw [x1 75 (by omega) (by omega)]; exact G2 e he
            · rw [x1 77 (by omega) (by omega), x3 c hc]; exact G3 c hc
            · rw [x1 76 (by omega) (by omega)]; exact G4 a ha
      · intro g p1 p2
        refine Or.inr ?_
        have has : ∀ t, t < n → inn B t d → ∃ nk, Ky B t d (I 75) r2 nk ∧ r2 78 (4 * d + t) = nI 0 ∧ 0 < nk ∧ (r2 76 (12 * (4 * d + t))).toInt ≤ (g d).toInt := fun t a q => by
          obtain ⟨nk, k1, k2, k3⟩ := K2 t a q
          obtain ⟨i, i1, i2, i3⟩ := p2 d (by omega) dD t a q
          obtain ⟨j, j1, j2⟩ := (k1.2.2.2 (g d)).mp ⟨i, i1, fun e he => (i2 e he).elim Or.inl (fun y => Or.inr (y.trans (p1 e he))), i3⟩
          refine ⟨nk, k1, k2, by omega, ?_⟩
          rcases (by omega : j = 0 ∨ 0 < j) with z | z
          · rw [z] at j2; rw [← j2]; exact Int.le_refl _
          · have := k1.2.2.1 0 j z j1
            rw [j2] at this
            exact Int.le_of_lt this
        refine ⟨?_, fun t a q => ?_⟩
        · rcases v01 with z | z
          · exfalso
            obtain ⟨t, a, q, e7⟩ := K20 z
            obtain ⟨nk, k1, _, k3, _⟩ := has t a q
            have := nI_inj (e7.symm.trans k1.2.1) (by omega) (by have := k1.1; omega)
            omega
          · exact z
        · obtain ⟨nk, k1, k2, k3, k4⟩ := has t a q
          have e8 : stf r2 d t = 0 := by unfold stf; rw [k2, nIt (by omega)]
          show (kf r2 d t).toInt ≤ _
          unfold kf
          rw [e8]; exact k4
      · rcases v01 with z | z
        · exact Or.inr ⟨z, by omega⟩
        · refine Or.inl ⟨z, fun t a q => ?_, by omega⟩
          obtain ⟨nk, k1, k2, k3⟩ := K2 t a q
          have e7 : nkf r2 d t = nk := by unfold nkf; rw [k1.2.1, nIt (by have := k1.1; omega)]
          have e8 : stf r2 d t = 0 := by unfold stf; rw [k2, nIt (by omega)]
          show Ky B t d (I 75) r2 (nkf r2 d t) ∧ stf r2 d t < nkf r2 d t ∧ r2 78 (4 * d + t) = nI (stf r2 d t)
          rw [e7, e8]
          exact ⟨k1, k3 z, k2⟩
end P_27e_goes9
