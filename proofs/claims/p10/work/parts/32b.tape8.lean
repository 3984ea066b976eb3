/-! the class reads the signs -/
theorem bc_t : ∀ a, a < 256 → (bc (nI a) &&& 255 = nI a ∧ (bc (nI a) = 32 ↔ nI a = 32)) ∧ (dg (bc (nI a)) ↔ dg (nI a)) ∧ (dg (nI a) → bc (nI a) = nI a) := by decide +kernel
theorem bc_ok {b : Int32} (h : 1 ≤ b.toInt ∧ b.toInt ≤ 255) : (bc b &&& 255 = b ∧ (bc b = 32 ↔ b = 32)) ∧ (dg (bc b) ↔ dg b) ∧ (dg b → bc b = b) := by
  have e := nI_self (x := b) (by omega)
  rw [e]
  exact bc_t _ (by omega)
def P6 (I : gM) (p : Nat) : gM := g_up I 1 2 (nI p)
theorem P6_P6 {I : gM} {p q : Nat} : P6 (P6 I p) q = P6 I q := by
  funext a b
  unfold P6
  by_cases c : a = 1 ∧ b = 2
  · rw [c.1, c.2, g_up_self, g_up_self]
  · rw [g_up_ne (by omega), g_up_ne (by omega), g_up_ne (by omega)]
theorem P6_2 {I : gM} {p : Nat} : P6 I p 1 2 = nI p := g_up_self
theorem P6_j {I : gM} {p j : Nat} (h : j ≠ 2) : P6 I p 1 j = I 1 j := g_up_ne (Or.inr h)
theorem P6_k {I : gM} {p k : Nat} (h : k ≠ 1) : P6 I p k = I k := g_up_row h
theorem P6_same {I : gM} {p : Nat} (h : I 1 2 = nI p) : P6 I p = I := g_up_same h
theorem P6_pU {I : gM} {p q : Nat} : g_up (P6 I p) 1 2 (nI q) = P6 I q := P6_P6
/-- the class's tape: n signs of w, the reading at p -/
def C8 (M : gM) (w : Nat → Int32) (n p : Nat) : Prop := M 1 0 = nI n ∧ n ≤ 400 ∧ M 1 2 = nI p ∧ p ≤ n ∧ ∀ j, j < n → M 2 j = bc (w j) ∧ 1 ≤ (w j).toInt ∧ (w j).toInt ≤ 255
theorem C8.at {M : gM} {w : Nat → Int32} {n p q : Nat} (h : C8 M w n p) (hq : q ≤ n) : C8 (P6 M q) w n q := ⟨by rw [P6_j (by decide)]; exact h.1, h.2.1, P6_2, hq, fun j hj => by rw [P6_k (by decide)]; exact h.2.2.2.2 j hj⟩
theorem C8.cong {M N : gM} {w : Nat → Int32} {n p : Nat} (h : C8 M w n p) (e1 : ∀ j, N 1 j = M 1 j) (e2 : ∀ j, N 2 j = M 2 j) : C8 N w n p := ⟨by rw [e1]; exact h.1, h.2.1, by rw [e1]; exact h.2.2.1, h.2.2.2.1, fun j hj => by rw [e2]; exact h.2.2.2.2 j hj⟩
theorem c_peek {M : gM} {w : Nat → Int32} {n p : Nat} (h : C8 M w n p) : fX6_peek M = some (hr w n (sk w n p), P6 M (sk w n p)) := by
  have key : ∀ (k : Nat) (M : gM) (p : Nat), n - p = k → C8 M w n p → lX6_peek_0 M = some (P6 M (sk w n p)) := by
    intro k
    induction k with
    | zero =>
      intro M p hk h
      have := h.2.2.2.1
      have := h.2.1
      unfold lX6_peek_0
      rw [itO_eq, h.1, h.2.2.1, if_pos ((nI_leI (by omega) (by omega)).mpr (by omega)), obs]
      show some M = _
      rw [sk, if_neg (by omega), P6_same h.2.2.1]
    | succ k ih =>
      intro M p hk h
      have := h.2.2.2.1
      have := h.2.1
      obtain ⟨b1, b2, b3⟩ := h.2.2.2.2 p (by omega)
      have b4 := (bc_ok ⟨b2, b3⟩).1.2
      unfold lX6_peek_0
      rw [itO_eq, h.1, h.2.2.1, if_neg (mt (nI_leI (by omega) (by omega)).mp (by omega)), L400, if_neg (mt (nI_leI (by omega) (by omega)).mp (by omega)), rI_n (by omega) (by omega), obs, b1]
      by_cases c : w p = 32
      · rw [if_pos (b4.mpr c), pU_n, obs, obs, nI_1]
        show lX6_peek_0 (P6 M (p + 1)) = _
        rw [ih (P6 M (p + 1)) (p + 1) (by omega) (h.at (by omega)), P6_P6]
        conv => rhs; rw [sk, if_pos ⟨by omega, c⟩]
      · rw [if_neg (mt b4.mp c), obs]
        show some M = _
        rw [sk, if_neg (fun z => c z.2), P6_same h.2.2.1]
  have hs := sk_le (w := w) h.2.2.2.1
  have := h.2.1
  have hq := h.at hs.2
  unfold fX6_peek bX6_peek_48
  rw [key _ M p rfl h, obs, hq.1, hq.2.2.1]
  unfold hr
  by_cases c : n ≤ sk w n p
  · rw [if_pos ((nI_leI (by omega) (by omega)).mpr c), if_pos c]
  · obtain ⟨b1, b2, b3⟩ := h.2.2.2.2 (sk w n p) (by omega)
    rw [if_neg (mt (nI_leI (by omega) (by omega)).mp c), L400, if_neg (mt (nI_leI (by omega) (by omega)).mp (by omega)), rI_n (by omega) (by omega), obs, if_neg c, P6_k (by decide), b1, (bc_ok ⟨b2, b3⟩).1.1]
theorem n_isDigit6 (c : Int32) : fX6_isDigit c = some (if dg c then 1 else 0) := by
  unfold fX6_isDigit dg
  by_cases c1 : c < 48
  · rw [if_pos c1, if_neg (fun z => z.1 c1)]
  · rw [if_neg c1]
    by_cases c2 : 57 < c
    · rw [if_pos c2, if_neg (fun z => z.2 c2)]
    · rw [if_neg c2, if_pos ⟨c1, c2⟩]
/-- a number as the class reads it: whatever stands behind it -/
def cNum (w : Nat → Int32) (n p : Nat) : Option (Nat × Nat) :=
  if dg (hr w n (sk w n p)) then
    if dg (hr w n (sk w n p + 1)) then some (10 * dv (hr w n (sk w n p)) + dv (hr w n (sk w n p + 1)), sk w n p + 2)
    else some (dv (hr w n (sk w n p)), sk w n p + 1)
  else none
theorem cNum_p {w : Nat → Int32} {n p hi : Nat} : (∃ x, pNum w n hi p = some x ∧ cNum w n p = some x ∧ x.1 ≤ hi) ∨ (pNum w n hi p = none ∧ (cNum w n p = none ∨ (∃ x, cNum w n p = some x ∧ dg (hr w n x.2)) ∨ ∃ x, cNum w n p = some x ∧ hi < x.1)) := by
  unfold pNum cNum
  dsimp only
  by_cases c1 : dg (hr w n (sk w n p))
  · rw [if_pos c1, if_pos c1]
    by_cases c2 : dg (hr w n (sk w n p + 1))
    · rw [if_pos c2, if_pos c2]
      by_cases c3 : dg (hr w n (sk w n p + 2))
      · rw [if_pos c3]
        exact Or.inr ⟨rfl, Or.inr (Or.inl ⟨_, rfl, c3⟩)⟩
      · rw [if_neg c3]
        by_cases c4 : 10 * dv (hr w n (sk w n p)) + dv (hr w n (sk w n p + 1)) ≤ hi
        · rw [if_pos c4]; exact Or.inl ⟨_, rfl, rfl, c4⟩
        · rw [if_neg c4]; exact Or.inr ⟨rfl, Or.inr (Or.inr ⟨_, rfl, by dsimp only; omega⟩)⟩
    · rw [if_neg c2, if_neg c2]
      by_cases c4 : dv (hr w n (sk w n p)) ≤ hi
      · rw [if_pos c4]; exact Or.inl ⟨_, rfl, rfl, c4⟩
      · rw [if_neg c4]; exact Or.inr ⟨rfl, Or.inr (Or.inr ⟨_, rfl, by dsimp only; omega⟩)⟩
  · rw [if_neg c1, if_neg c1]; exact Or.inr ⟨rfl, Or.inl rfl⟩
theorem cNum_le {w : Nat → Int32} {n p : Nat} {x : Nat × Nat} (h : cNum w n p = some x) : x.1 ≤ 99 ∧ x.2 ≤ n := by
  unfold cNum at h
  by_cases c1 : dg (hr w n (sk w n p))
  · rw [if_pos c1] at h
    have v1 := (dg_v c1).1
    have l1 := hr_lt (dg_ne c1)
    by_cases c2 : dg (hr w n (sk w n p + 1))
    · rw [if_pos c2] at h
      have v2 := (dg_v c2).1
      have l2 := hr_lt (dg_ne c2)
      cases h
      exact ⟨by dsimp only; omega, by dsimp only; omega⟩
    · rw [if_neg c2] at h
      cases h
      exact ⟨by dsimp only; omega, by dsimp only; omega⟩
  · rw [if_neg c1] at h; cases h
theorem c_number {M : gM} {w : Nat → Int32} {n p : Nat} (h : C8 M w n p) : (∃ x, cNum w n p = some x ∧ fX6_number M = some (nI x.1, P6 M x.2)) ∨ (cNum w n p = none ∧ fX6_number M = some (-1, P6 M (sk w n p))) := by
  have hs := sk_le (w := w) h.2.2.2.1
  have hn := h.2.1
  unfold fX6_number cNum
  rw [c_peek h, obs]
  dsimp only
  rw [n_isDigit6, obs]
  by_cases c1 : dg (hr w n (sk w n p))
  · have v1 := dg_v c1
    have l1 := hr_lt (dg_ne c1)
    have hq := h.at (q := sk w n p + 1) (by omega)
    have e1 : hr w n (sk w n p) - 48 = nI (dv (hr w n (sk w n p))) := by
      conv => lhs; rw [v1.2]
      rw [show (48 : Int32) = nI 48 from rfl, nI_sub (by omega)]
      congr 1; omega
    rw [if_pos c1, if_pos c1, if_neg n10, pU_n, obs, P6_2, nI_1, P6_pU, hq.1, hq.2.2.1, e1]
    by_cases d : n ≤ sk w n p + 1
    · rw [if_pos ((nI_leI (by omega) (by omega)).mpr d), if_neg (show ¬ dg (hr w n (sk w n p + 1)) by unfold hr; rw [if_pos d]; exact dg_m1)]
      exact Or.inl ⟨_, rfl, rfl⟩
    · obtain ⟨b1, b2, b3⟩ := h.2.2.2.2 (sk w n p + 1) (by omega)
      obtain ⟨_, b4, b5⟩ := bc_ok ⟨b2, b3⟩
      have eh : hr w n (sk w n p + 1) = w (sk w n p + 1) := by unfold hr; rw [if_neg d]
      rw [if_neg (mt (nI_leI (by omega) (by omega)).mp d), L400, if_neg (mt (nI_leI (by omega) (by omega)).mp (by omega)), rI_n (by omega) (by omega), obs, P6_k (by decide), b1, n_isDigit6, obs, eh]
      by_cases c2 : dg (w (sk w n p + 1))
      · have v2 := dg_v c2
        rw [if_pos (b4.mpr c2), if_pos c2, if_neg n10, obs, pU_n, obs, nI_1, P6_pU, b5 c2]
        refine Or.inl ⟨_, rfl, ?_⟩
        congr 2
        dsimp only
        conv => lhs; rw [v2.2]
        rw [show (10 : Int32) = nI 10 from rfl, show (48 : Int32) = nI 48 from rfl, nI_mul, nI_add, nI_sub (by omega)]
        congr 1; omega
      · rw [if_neg (mt b4.mp c2), if_neg c2, if_pos rfl]
        exact Or.inl ⟨_, rfl, rfl⟩
  · rw [if_neg c1, if_neg c1, if_pos rfl]
    exact Or.inr ⟨rfl, rfl⟩
