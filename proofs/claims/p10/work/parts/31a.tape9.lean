/-! the grammar of a tape: places only, and the numbers read -/
/-- the sign at a place, -1 behind the end -/
def hr (w : Nat → Int32) (n p : Nat) : Int32 := if n ≤ p then -1 else w p
/-- the first place from p on that holds no blank -/
def sk (w : Nat → Int32) (n p : Nat) : Nat := if p < n ∧ w p = 32 then sk w n (p + 1) else p
termination_by n - p
abbrev dg (c : Int32) : Prop := ¬ c < 48 ∧ ¬ 57 < c
theorem sk_le {w : Nat → Int32} {n : Nat} : ∀ {p : Nat}, p ≤ n → p ≤ sk w n p ∧ sk w n p ≤ n := by
  intro p
  induction h : n - p generalizing p with
  | zero =>
    intro hp
    unfold sk
    rw [if_neg (by omega)]; omega
  | succ k ih =>
    intro hp
    unfold sk
    by_cases c : p < n ∧ w p = 32
    · rw [if_pos c]
      have := ih (p := p + 1) (by omega) (by omega)
      omega
    · rw [if_neg c]; omega
theorem sk_end {w : Nat → Int32} {n : Nat} : ∀ {p : Nat}, p ≤ n → ¬ (sk w n p < n ∧ w (sk w n p) = 32) := by
  intro p
  induction h : n - p generalizing p with
  | zero =>
    intro hp
    unfold sk
    rw [if_neg (by omega)]; omega
  | succ k ih =>
    intro hp
    unfold sk
    by_cases c : p < n ∧ w p = 32
    · rw [if_pos c]
      exact ih (p := p + 1) (by omega) (by omega)
    · rw [if_neg c]; exact c
theorem sk_sk {w : Nat → Int32} {n p : Nat} (h : p ≤ n) : sk w n (sk w n p) = sk w n p := by
  rw [sk, if_neg (sk_end h)]
theorem hr_lt {w : Nat → Int32} {n p : Nat} (h : hr w n p ≠ -1) : p < n := by
  unfold hr at h
  by_cases c : n ≤ p
  · rw [if_pos c] at h; exact absurd rfl h
  · omega
theorem dg_m1 : ¬ dg (-1) := by decide
theorem dg_ne {c : Int32} (h : dg c) : c ≠ -1 := fun e => dg_m1 (e ▸ h)
/-- a digit's number -/
def dv (c : Int32) : Nat := (c.toInt - 48).toNat
theorem dg_v {c : Int32} (h : dg c) : dv c ≤ 9 ∧ c = nI (48 + dv c) := by
  have h1 := mt (iLT (a := c) (b := 48) rfl (by decide : (48 : Int32).toInt = 48)).mpr h.1
  have h2 := mt (iLT (a := (57 : Int32)) (b := c) (by decide : (57 : Int32).toInt = 57) rfl).mpr h.2
  unfold dv
  refine ⟨by omega, ?_⟩
  rw [nI_self (x := c) (by omega)]
  congr 1
  rw [← nI_self (x := c) (by omega)]
  omega
/-- a number up to hi of one or two digits, no third behind it -/
def pNum (w : Nat → Int32) (n hi p : Nat) : Option (Nat × Nat) :=
  let q := sk w n p
  if dg (hr w n q) then
    if dg (hr w n (q + 1)) then
      if dg (hr w n (q + 2)) then none
      else if 10 * dv (hr w n q) + dv (hr w n (q + 1)) ≤ hi then some (10 * dv (hr w n q) + dv (hr w n (q + 1)), q + 2) else none
    else if dv (hr w n q) ≤ hi then some (dv (hr w n q), q + 1) else none
  else none
def pMust (w : Nat → Int32) (n : Nat) (c : Int32) (p : Nat) : Option Nat :=
  if hr w n (sk w n p) = c then some (sk w n p + 1) else none
theorem pNum_le {w : Nat → Int32} {n hi p v q : Nat} (h : pNum w n hi p = some (v, q)) : v ≤ hi ∧ v ≤ 99 ∧ q ≤ n := by
  unfold pNum at h
  dsimp only at h
  by_cases c1 : dg (hr w n (sk w n p))
  · rw [if_pos c1] at h
    have v1 := (dg_v c1).1
    have l1 := hr_lt (dg_ne c1)
    by_cases c2 : dg (hr w n (sk w n p + 1))
    · rw [if_pos c2] at h
      have v2 := (dg_v c2).1
      have l2 := hr_lt (dg_ne c2)
      by_cases c3 : dg (hr w n (sk w n p + 2))
      · rw [if_pos c3] at h; cases h
      · rw [if_neg c3] at h
        split at h
        · cases h; omega
        · cases h
    · rw [if_neg c2] at h
      split at h
      · cases h; omega
      · cases h
  · rw [if_neg c1] at h; cases h
theorem pMust_le {w : Nat → Int32} {n p q : Nat} {c : Int32} (hc : c ≠ -1) (h : pMust w n c p = some q) : q ≤ n := by
  unfold pMust at h
  split at h
  · rename_i e
    have := hr_lt (w := w) (n := n) (p := sk w n p) (by rw [e]; exact hc)
    cases h; omega
  · cases h
theorem n10 : ¬ (1 : Int32) = 0 := by decide
/-! the reference reads it -/
/-- the memory with the reading at a place -/
def P9 (I : gM) (p : Nat) : gM := g_up I 62 3 (nI p)
theorem P9_P9 {I : gM} {p q : Nat} : P9 (P9 I p) q = P9 I q := by
  funext a b
  unfold P9
  by_cases c : a = 62 ∧ b = 3
  · rw [c.1, c.2, g_up_self, g_up_self]
  · rw [g_up_ne (by omega), g_up_ne (by omega), g_up_ne (by omega)]
theorem P9_3 {I : gM} {p : Nat} : P9 I p 62 3 = nI p := g_up_self
theorem P9_j {I : gM} {p j : Nat} (h : j ≠ 3) : P9 I p 62 j = I 62 j := g_up_ne (Or.inr h)
theorem P9_k {I : gM} {p k : Nat} (h : k ≠ 62) : P9 I p k = I k := g_up_row h
theorem P9_same {I : gM} {p : Nat} (h : I 62 3 = nI p) : P9 I p = I := g_up_same h
theorem P9_pU {I : gM} {p q : Nat} : g_up (P9 I p) 62 3 (nI q) = P9 I q := P9_P9
/-- a tape of n signs, the reading at p -/
def TP9 (I : gM) (n p : Nat) : Prop := I 62 2 = nI n ∧ n ≤ 400 ∧ I 62 3 = nI p ∧ p ≤ n
theorem TP9.at {I : gM} {n p q : Nat} (h : TP9 I n p) (hq : q ≤ n) : TP9 (P9 I q) n q := ⟨by rw [P9_j (by omega)]; exact h.1, h.2.1, P9_3, hq⟩
theorem n_here {I : gM} {n p : Nat} (h : TP9 I n p) : fX9_here I = some (hr (I 63) n p) := by
  obtain ⟨h1, h2, h3, h4⟩ := h
  unfold fX9_here hr
  rw [h1, h3]
  by_cases c : n ≤ p
  · rw [if_pos ((nI_leI (by omega) (by omega)).mpr c), if_pos c]
  · rw [if_neg (mt (nI_leI (a := n) (b := p) (by omega) (by omega)).mp c), if_neg c, rI_n (by omega) (by omega)]; rfl
theorem hr32 {w : Nat → Int32} {n p : Nat} : hr w n p = 32 ↔ p < n ∧ w p = 32 := by
  unfold hr
  by_cases c : n ≤ p
  · rw [if_pos c]; exact ⟨fun e => absurd e (by decide), fun e => absurd e.1 (by omega)⟩
  · rw [if_neg c]; exact ⟨fun e => ⟨by omega, e⟩, fun e => e.2⟩
theorem n_ahead {I : gM} {n p : Nat} (h : TP9 I n p) : fX9_ahead I = some (hr (I 63) n (sk (I 63) n p), P9 I (sk (I 63) n p)) := by
  have key : ∀ (k : Nat) (I : gM) (p : Nat), n - p = k → TP9 I n p → lX9_ahead_0 I = some (P9 I (sk (I 63) n p)) := by
    intro k
    induction k with
    | zero =>
      intro I p hk h
      unfold lX9_ahead_0
      rw [itO_eq, n_here h, obs, if_neg (mt hr32.mp (by omega)), obs]
      show some I = _
      rw [sk, if_neg (by omega), P9_same h.2.2.1]
    | succ k ih =>
      intro I p hk h
      by_cases c : p < n ∧ (I 63) p = 32
      · unfold lX9_ahead_0
        rw [itO_eq, n_here h, obs, if_pos (hr32.mpr c), pU_n, obs, obs]
        show lX9_ahead_0 (g_up I 62 3 (I 62 3 + 1)) = _
        rw [h.2.2.1, nI_1]
        have e := ih (P9 I (p + 1)) (p + 1) (by omega) (h.at (by omega))
        rw [P9_P9, P9_k (by decide)] at e
        rw [show g_up I 62 3 (nI (p + 1)) = P9 I (p + 1) from rfl, e]
        conv => rhs; rw [sk, if_pos c]
      · unfold lX9_ahead_0
        rw [itO_eq, n_here h, obs, if_neg (mt hr32.mp c), obs]
        show some I = _
        rw [sk, if_neg c, P9_same h.2.2.1]
  unfold fX9_ahead
  have := sk_le (w := I 63) h.2.2.2
  rw [key _ I p rfl h, obs, n_here (h.at this.2), obs, P9_k (by decide)]
theorem n_isDigit9 (c : Int32) : fX9_isDigit c = some (if dg c then 1 else 0) := by
  unfold fX9_isDigit dg
  by_cases c1 : c < 48
  · rw [if_pos c1, if_neg (fun z => z.1 c1)]
  · rw [if_neg c1]
    by_cases c2 : 57 < c
    · rw [if_pos c2, if_neg (fun z => z.2 c2)]
    · rw [if_neg c2, if_pos ⟨c1, c2⟩]
/-- wrong -/
def NE (r : gM) : Prop := r 62 4 ≠ -1
theorem n_bad {I : gM} {n p : Nat} (h : TP9 I n p) : ∃ r, fX9_bad I = some r ∧ NE r := by
  have := h.2.1
  have := h.2.2.2
  unfold fX9_bad
  by_cases c : I 62 4 = -1
  · rw [if_pos c, pU_n]
    exact ⟨_, rfl, show g_up I 62 4 (I 62 3) 62 4 ≠ -1 by rw [g_up_self, h.2.2.1]; exact nI_m1 (by omega)⟩
  · rw [if_neg c, pU_n]
    exact ⟨_, rfl, show g_up I 62 4 (I 62 4) 62 4 ≠ -1 by rw [g_up_self]; exact c⟩
theorem s_bad {I r : gM} (h : NE I) (e : fX9_bad I = some r) : r = I := by
  unfold fX9_bad at e
  rw [if_neg h, pU_n] at e
  cases e
  exact g_up_same rfl
theorem n_must {I : gM} {n p : Nat} (h : TP9 I n p) (hw : I 62 4 = -1) (c : Int32) :
    (∃ q, pMust (I 63) n c p = some q ∧ fX9_must c I = some (P9 I q)) ∨ (pMust (I 63) n c p = none ∧ ∃ r, fX9_must c I = some r ∧ NE r) := by
  have hs := sk_le (w := I 63) h.2.2.2
  have := h.2.1
  unfold fX9_must pMust
  rw [if_pos hw, n_ahead h, obs]
  dsimp only
  by_cases e : hr (I 63) n (sk (I 63) n p) = c
  · rw [if_pos e, if_pos e, pU_n, obs, P9_3, nI_1, P9_pU]
    exact Or.inl ⟨_, rfl, rfl⟩
  · rw [if_neg e, if_neg e]
    obtain ⟨r, er, hr⟩ := n_bad (h.at hs.2)
    refine Or.inr ⟨rfl, r, ?_, hr⟩
    unfold bX9_must_29
    rw [er, obs]
theorem s_must {I r : gM} {c : Int32} (h : NE I) (e : fX9_must c I = some r) : r = I := by
  unfold fX9_must at e
  rw [if_neg h] at e
  unfold bX9_must_29 at e
  obtain ⟨r3, er, e⟩ := ob e
  cases e
  exact s_bad h er
theorem s_number {I : gM} {r : Int32 × gM} {c : Int32} (h : NE I) (e : fX9_number c I = some r) : r.2 = I := by
  unfold fX9_number at e
  rw [if_neg h] at e
  unfold bX9_number_18 at e
  obtain ⟨r3, er, e⟩ := ob e
  cases e
  exact s_bad h er
theorem s_digit {I : gM} {r : Int32 × gM} (h : NE I) (e : fX9_digit I = some r) : r.2 = I := by
  unfold fX9_digit at e
  rw [if_neg h] at e
  unfold bX9_digit_18 at e
  obtain ⟨r3, er, e⟩ := ob e
  cases e
  exact s_bad h er
theorem dva {a : Nat} (h : a ≤ 9) (s : Nat) (hs : s ≤ 1000) : (10 : Int32) * nI s + nI (48 + a) - 48 = nI (10 * s + a) := by
  rw [show (10 : Int32) = nI 10 from rfl, show (48 : Int32) = nI 48 from rfl, nI_mul, nI_add, nI_sub (by omega)]
  congr 1; omega
theorem n_number {I : gM} {n p : Nat} (h : TP9 I n p) (hw : I 62 4 = -1) {hi : Nat} (hh : hi < 1000) :
    (∃ v q, pNum (I 63) n hi p = some (v, q) ∧ fX9_number (nI hi) I = some (nI v, P9 I q)) ∨ (pNum (I 63) n hi p = none ∧ ∃ r, fX9_number (nI hi) I = some r ∧ NE r.2) := by
  have hs := sk_le (w := I 63) h.2.2.2
  have hn := h.2.1
  have W : ∀ q, P9 I q 63 = I 63 := fun q => P9_k (by decide)
  unfold fX9_number pNum
  rw [if_pos hw, n_ahead h, obs]
  dsimp only
  rw [n_isDigit9, obs]
  by_cases c1 : dg (hr (I 63) n (sk (I 63) n p))
  · have v1 := dg_v c1
    have l1 := hr_lt (dg_ne c1)
    have z0 : fX9_here (P9 I (sk (I 63) n p)) = some (hr (I 63) n (sk (I 63) n p)) := by rw [n_here (h.at hs.2), W]
    have z1 : fX9_here (P9 I (sk (I 63) n p + 1)) = some (hr (I 63) n (sk (I 63) n p + 1)) := by rw [n_here (h.at (by omega)), W]
    generalize hq : sk (I 63) n p = q at *
    rw [if_pos c1, if_pos c1, if_neg n10]
    by_cases c2 : dg (hr (I 63) n (q + 1))
    · have v2 := dg_v c2
      have l2 := hr_lt (dg_ne c2)
      have e : lX9_number_28 ((0 : Int32), (0 : Int32), P9 I q) = some (nI (10 * dv (hr (I 63) n q) + dv (hr (I 63) n (q + 1))), P9 I (q + 2)) := by
        unfold lX9_number_28
        rw [itO_eq]; dsimp only
        rw [if_neg (by decide), z0, obs, n_isDigit9, obs, if_pos c1, if_neg n10, obs, pU_n, obs, P9_3, nI_1, P9_pU, obs]
        show itO _ _ = _
        rw [itO_eq]; dsimp only
        rw [if_neg (by decide), z1, obs, n_isDigit9, obs, if_pos c2, if_neg n10, obs, pU_n, obs, P9_3, nI_1, P9_pU, obs]
        show itO _ _ = _
        rw [itO_eq]; dsimp only
        rw [if_pos (by decide), obs]
        show some _ = some _
        congr 2
        rw [v1.2, v2.2, show (0 : Int32) = nI 0 from rfl, dva v1.1 0 (by omega), dva v2.1 _ (by omega)]
        congr 1
        rw [← v1.2, ← v2.2]; omega
      have z2 : fX9_here (P9 I (q + 2)) = some (hr (I 63) n (q + 2)) := by rw [n_here (h.at (by omega)), W]
      rw [e, obs]
      dsimp only
      unfold bX9_number_72
      rw [z2, obs, n_isDigit9, obs, if_pos c2]
      by_cases c3 : dg (hr (I 63) n (q + 2))
      · rw [if_pos c3, if_pos c3, if_neg n10]
        obtain ⟨r, er, hr⟩ := n_bad (h.at (q := q + 2) (by omega))
        rw [er, obs]
        exact Or.inr ⟨rfl, (_, r), rfl, hr⟩
      · rw [if_neg c3, if_neg c3, if_pos rfl]
        by_cases c4 : 10 * dv (hr (I 63) n q) + dv (hr (I 63) n (q + 1)) ≤ hi
        · rw [if_pos c4, if_pos ((nI_leI (by omega) (by omega)).mpr c4)]
          exact Or.inl ⟨_, _, rfl, rfl⟩
        · rw [if_neg c4, if_neg (mt (nI_leI (by omega) (by omega)).mp c4), pU_n, obs, P9_3, nI_s1 (by omega), P9_pU]
          obtain ⟨r, er, hr⟩ := n_bad (h.at (q := q + 2 - 1) (by omega))
          rw [er, obs]
          exact Or.inr ⟨rfl, (_, r), rfl, hr⟩
    · have e : lX9_number_28 ((0 : Int32), (0 : Int32), P9 I q) = some (nI (dv (hr (I 63) n q)), P9 I (q + 1)) := by
        unfold lX9_number_28
        rw [itO_eq]; dsimp only
        rw [if_neg (by decide), z0, obs, n_isDigit9, obs, if_pos c1, if_neg n10, obs, pU_n, obs, P9_3, nI_1, P9_pU, obs]
        show itO _ _ = _
        rw [itO_eq]; dsimp only
        rw [if_neg (by decide), z1, obs, n_isDigit9, obs, if_neg c2, if_pos rfl, obs]
        show some _ = some _
        congr 2
        rw [v1.2, show (0 : Int32) = nI 0 from rfl, dva v1.1 0 (by omega)]
        congr 1
        rw [← v1.2]; omega
      rw [e, obs]
      dsimp only
      unfold bX9_number_72
      rw [z1, obs, n_isDigit9, obs, if_neg c2, if_neg c2, if_pos rfl]
      by_cases c4 : dv (hr (I 63) n q) ≤ hi
      · rw [if_pos c4, if_pos ((nI_leI (by omega) (by omega)).mpr c4)]
        exact Or.inl ⟨_, _, rfl, rfl⟩
      · rw [if_neg c4, if_neg (mt (nI_leI (by omega) (by omega)).mp c4), pU_n, obs, P9_3, nI_s1 (by omega), P9_pU]
        obtain ⟨r, er, hr⟩ := n_bad (h.at (q := q + 1 - 1) (by omega))
        rw [er, obs]
        exact Or.inr ⟨rfl, (_, r), rfl, hr⟩
  · rw [if_neg c1, if_neg c1, if_pos rfl]
    obtain ⟨r, er, hr⟩ := n_bad (h.at hs.2)
    refine Or.inr ⟨rfl, ((0 : Int32), r), ?_, hr⟩
    unfold bX9_number_18
    rw [er, obs]
theorem n_digit {I : gM} {n p : Nat} (h : TP9 I n p) (hw : I 62 4 = -1) :
    (dg (hr (I 63) n (sk (I 63) n p)) ∧ fX9_digit I = some (nI (dv (hr (I 63) n (sk (I 63) n p))), P9 I (sk (I 63) n p + 1))) ∨ (¬ dg (hr (I 63) n (sk (I 63) n p)) ∧ ∃ r, fX9_digit I = some r ∧ NE r.2) := by
  have hs := sk_le (w := I 63) h.2.2.2
  have hn := h.2.1
  unfold fX9_digit
  rw [if_pos hw, n_ahead h, obs]
  dsimp only
  rw [n_isDigit9, obs]
  by_cases c1 : dg (hr (I 63) n (sk (I 63) n p))
  · have v1 := dg_v c1
    have l1 := hr_lt (dg_ne c1)
    refine Or.inl ⟨c1, ?_⟩
    rw [if_pos c1, if_neg n10, pU_n, obs, P9_3, nI_1, P9_pU, P9_3, nI_s1 (by omega), rI_n (by omega) (by omega), obs, P9_k (by decide)]
    congr 2
    have : (I 63) (sk (I 63) n p + 1 - 1) = hr (I 63) n (sk (I 63) n p) := by
      unfold hr; rw [if_neg (by omega)]; rfl
    rw [this]
    conv => lhs; rw [v1.2]
    rw [show (48 : Int32) = nI 48 from rfl, nI_sub (by omega)]
    congr 1; omega
  · rw [if_neg c1, if_pos rfl]
    obtain ⟨r, er, hr⟩ := n_bad (h.at hs.2)
    refine Or.inr ⟨c1, ((0 : Int32), r), ?_, hr⟩
    unfold bX9_digit_18
    rw [er, obs]
