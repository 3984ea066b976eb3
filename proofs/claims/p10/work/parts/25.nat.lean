/-! places and counts as natural numbers -/
theorem nI_mul (a b : Nat) : nI a * nI b = nI (a * b) := (Int32.ofNat_mul a b).symm
theorem nI_sub {a b : Nat} (h : b ≤ a) : nI a - nI b = nI (a - b) := (Int32.ofNat_sub a b h).symm
theorem nI_dec {a : Nat} (h : 1 ≤ a) : nI a + (-1) = nI (a - 1) := by
  rw [← nI_sub h]; show nI a + (-1) = nI a - 1; rw [Int32.sub_eq_add_neg]
theorem L0 : (0 : Int32) = nI 0 := rfl
theorem L1 : (1 : Int32) = nI 1 := rfl
theorem L2 : (2 : Int32) = nI 2 := rfl
theorem L3 : (3 : Int32) = nI 3 := rfl
theorem L4 : (4 : Int32) = nI 4 := rfl
theorem L5 : (5 : Int32) = nI 5 := rfl
theorem L6 : (6 : Int32) = nI 6 := rfl
theorem L12 : (12 : Int32) = nI 12 := rfl
theorem L15 : (15 : Int32) = nI 15 := rfl
theorem L60 : (60 : Int32) = nI 60 := rfl
theorem L40 : (40 : Int32) = nI 40 := rfl
theorem L100 : (100 : Int32) = nI 100 := rfl
theorem L150 : (150 : Int32) = nI 150 := rfl
theorem L151 : (151 : Int32) = nI 151 := rfl
theorem L180 : (180 : Int32) = nI 180 := rfl
theorem L331 : (331 : Int32) = nI 331 := rfl
theorem L400 : (400 : Int32) = nI 400 := rfl
theorem L13240 : (13240 : Int32) = nI 13240 := rfl
theorem L20736 : (20736 : Int32) = nI 20736 := rfl
theorem nIt {n : Nat} (h : n < 2 ^ 31) : (nI n).toInt.toNat = n := by rw [tnI h]; rfl
theorem rI_n {n a : Nat} {f : Nat → Int32} (h : a < n) (hn : n < 2 ^ 31) : rI n f (nI a) = some (f a) := by
  have e := tnI (n := a) (by omega)
  unfold rI
  rw [if_pos (by omega), e]; rfl
theorem wI_n {I : gM} {k n a : Nat} {v : Int32} (h : a < n) (hn : n < 2 ^ 31) : wI I k n (nI a) v = some (g_up I k a v) := by
  have e := tnI (n := a) (by omega)
  unfold wI
  rw [if_pos (by omega), e]; rfl
theorem pU_n {α : Type} {I : Nat → Nat → α} {k j : Nat} {v : α} : pU I k j v = some (g_up I k j v) := rfl
theorem obs {α β : Type} {v : α} {f : α → Option β} : (some v).bind f = f v := rfl
theorem t_eq {α : Type} {o : Option α} {v : α} {Q : α → Prop} (e : o = some v) (h : Q v) : T o Q := ⟨v, e, h⟩
theorem t_be {α β : Type} {o : Option α} {v : α} {f : α → Option β} {Q : β → Prop} (e : o = some v) (h : T (f v) Q) : T (o.bind f) Q := by rw [e]; exact h
theorem gu_in {I : gM} {k j j' : Nat} {v : Int32} : g_up I k j v k j' = if j' = j then v else I k j' := by
  by_cases h : j' = j
  · rw [if_pos h, h, g_up_self]
  · rw [if_neg h, g_up_ne (Or.inr h)]
theorem nI_inj {a b : Nat} (e : nI a = nI b) (ha : a < 2 ^ 31) (hb : b < 2 ^ 31) : a = b := (nI_eq ha hb).mp e
/-- a place whose range begins at nought holds a count -/
theorem MI.n {b : Bool} {I0 I : gM} (h : MI b I0 I) {k j : Nat} {hi : Nat} (e : rg k j = (0, (hi : Int))) : ∃ n : Nat, n ≤ hi ∧ I k j = nI n := by
  have q := h.at e
  refine ⟨(I k j).toInt.toNat, by omega, ?_⟩
  rw [← iI_n, Int.toNat_of_nonneg q.1]; exact iI_self _
/-- one cell changed -/
theorem MI.one {b : Bool} {I0 I r : gM} (h : MI b I0 I) {k : Nat} (hk : Nat.ble 62 k = !b) (he : ∀ q, q ≠ k → r q = I q) (hr : ∀ j, (rg k j).1 ≤ (r k j).toInt ∧ (r k j).toInt ≤ (rg k j).2) : MI b I0 r := by
  refine ⟨fun k' j' => ?_, fun k' q => ?_⟩
  · by_cases c : k' = k
    · rw [c]; exact hr j'
    · rw [he k' c]; exact h.1 k' j'
  · rw [he k' (fun z => by subst z; rw [hk] at q; cases b <;> cases q)]; exact h.2 k' q
/-- the number of an int that is nought or more -/
theorem nI_self {x : Int32} (h : 0 ≤ x.toInt) : x = nI x.toInt.toNat := by
  rw [← iI_n, Int.toNat_of_nonneg h]; exact iI_self _
theorem nI_range {n : Nat} (h : n < 2 ^ 31) : 0 ≤ (nI n).toInt ∧ (nI n).toInt = n := by rw [tnI h]; omega
theorem nI_s1 {a : Nat} (h : 1 ≤ a) : nI a - 1 = nI (a - 1) := nI_sub h
theorem a12 (c j : Nat) : (12 : Int32) * nI c + nI j = nI (12 * c + j) := by rw [L12, nI_mul, nI_add]
theorem a5 (c j : Nat) : (5 : Int32) * nI c + nI j = nI (5 * c + j) := by rw [L5, nI_mul, nI_add]
theorem a4 (c j : Nat) : (4 : Int32) * nI c + nI j = nI (4 * c + j) := by rw [L4, nI_mul, nI_add]
theorem a3 (c j : Nat) : (3 : Int32) * nI c + nI j = nI (3 * c + j) := by rw [L3, nI_mul, nI_add]
theorem a2 (j : Nat) : (2 : Int32) + nI j = nI (2 + j) := by rw [L2, nI_add]
/-- some cells changed -/
theorem MI.cells {b : Bool} {I0 I r : gM} (h : MI b I0 I) (hc : ∀ q, r q = I q ∨ (Nat.ble 62 q = !b ∧ ∀ j, (rg q j).1 ≤ (r q j).toInt ∧ (r q j).toInt ≤ (rg q j).2)) : MI b I0 r := by
  refine ⟨fun k' j' => ?_, fun k' q => ?_⟩
  · rcases hc k' with c | c
    · rw [c]; exact h.1 k' j'
    · exact c.2 j'
  · rcases hc k' with c | c
    · rw [c]; exact h.2 k' q
    · rw [c.1] at q; cases b <;> cases q
theorem t_nx {σ ρ : Type} {P : σ → Prop} {n : Nat} {μ : σ → Nat} {Q : ρ → Prop} {s' : σ} (h : P s') (m : μ s' < n) : T (some (.inl s') : Option (σ ⊕ ρ)) (LQ P n μ Q) := t_ret ⟨h, m⟩
