section P_35r_40t_asked
/-! what both are asked, without the join -/
def orUp (f : Nat → Nat) : Nat → Nat
  | 0 => 0
  | n + 1 => orUp f n ||| f n
def suUp (f : Nat → Nat) : Nat → Nat
  | 0 => 0
  | n + 1 => suUp f n + f n
def prUp (f : Nat → Nat) : Nat → Nat
  | 0 => 1
  | n + 1 => prUp f n * f n
theorem orUp_lt {f : Nat → Nat} : ∀ {n : Nat}, (∀ i, i < n → f i < 16) → orUp f n < 16
  | 0, _ => Nat.succ_pos 15
  | n + 1, h => Nat.or_lt_two_pow (n := 4) (orUp_lt (fun i hi => h i (by omega))) (h n (by omega))
theorem p_it {σ ρ : Type} {step : σ → Option (σ ⊕ ρ)} (P : σ → Prop) (μ : σ → Nat) {v : ρ} (hs : ∀ s, P s → T (step s) (LQ P (μ s) μ (fun r => r = v))) {s0 : σ} (h : P s0) : itO step s0 = some v := by
  obtain ⟨r, er, e⟩ := t_it (Q := fun r => r = v) P μ hs h
  rw [er, e]
/-- a table's letters as bits -/
def bL (A : aT) (t : Nat) : Nat := orUp (fun c => 2 ^ (aL A t).getD c 0) (aL A t).length
theorem bL_lt {A : aT} {t : Nat} (h : wfT A t) : bL A t < 16 := orUp_lt (fun c hc => by
  have := h.2.1 c hc
  exact Nat.lt_of_le_of_lt (Nat.pow_le_pow_right (n := 2) (show 0 < 2 by decide) (show (aL A t).getD c 0 ≤ 3 by omega)) (show 2 ^ 3 < 16 by decide))
theorem c_lettersOf {I : gM} {k : Nat} {A : aT} {t : Nat} (hW : WF A) (hC : CT I k A) (ht : t < A.1.length) : fX5_lettersOf k (nI t) I = some (nI (bL A t)) := by
  have hn4 := hW.1
  have w := hW.2.2.2.2 t ht
  have w1 := w.1
  obtain ⟨e1, e2, _⟩ := hC.2.2.2 t ht
  have key : lX5_lettersOf_4 k (nI t) I (nI 0, nI 0) = some (nI (bL A t)) := by
    unfold lX5_lettersOf_4
    refine p_it (P := fun s => ∃ c, c ≤ (aL A t).length ∧ s = (nI (orUp (fun c => 2 ^ (aL A t).getD c 0) c), nI c)) (μ := fun s => 20 - s.2.toInt.toNat) (fun s p => ?_) ⟨0, by omega, rfl⟩
    obtain ⟨c, hc, rfl⟩ := p
    dsimp only
    refine t_be (rI_n (by omega) (by omega)) ?_
    rw [e1]
    refine t_ite (fun d => ?_) (fun d => ?_)
    · have d := (nI_leI (by omega) (by omega)).mp d
      have : c = (aL A t).length := by omega
      subst this
      exact t_ret (show nI (orUp _ _) = nI (bL A t) from rfl)
    · have d := mt (nI_leI (a := (aL A t).length) (b := c) (by omega) (by omega)).mpr d
      rw [L3, nI_mul, nI_add]
      refine t_be (rI_n (by omega) (by omega)) ?_
      rw [show t * 3 + c = 3 * t + c by omega, e2 c (by omega), one_shl _ (w.2.1 c (by omega)), fa_or, nI_1]
      refine t_nx ?_ (show 20 - (nI (c + 1)).toInt.toNat < 20 - (nI c).toInt.toNat by rw [nIt (by omega), nIt (by omega)]; omega)
      exact ⟨c + 1, by omega, rfl⟩
  unfold fX5_lettersOf
  rw [show ((0 : Int32), (0 : Int32)) = (nI 0, nI 0) from rfl, key, obs]
theorem n_lettersK {I : gM} {w : Nat → Int32} {A : aT} {t : Nat} (hW : WF A) (hR : RT I w A) (ht : t < A.1.length) : fX9_lettersOf (nI t) I = some (nI (bL A t)) := by
  have hn4 := hW.1
  have w := hW.2.2.2.2 t ht
  have w1 := w.1
  obtain ⟨e1, e2, _⟩ := hR.2.2.2 t ht
  have key : lX9_lettersOf_4 (nI t) I (nI 0, nI 0) = some (nI (bL A t)) := by
    unfold lX9_lettersOf_4
    refine p_it (P := fun s => ∃ c, c ≤ (aL A t).length ∧ s = (nI (orUp (fun c => 2 ^ (aL A t).getD c 0) c), nI c)) (μ := fun s => 20 - s.2.toInt.toNat) (fun s p => ?_) ⟨0, by omega, rfl⟩
    obtain ⟨c, hc, rfl⟩ := p
    dsimp only
    refine t_be (rI_n (by omega) (by omega)) ?_
    rw [e1]
    refine t_ite (fun d => ?_) (fun d => ?_)
    · have d := (nI_leI (by omega) (by omega)).mp d
      have : c = (aL A t).length := by omega
      subst this
      exact t_ret (show nI (orUp _ _) = nI (bL A t) from rfl)
    · have d := mt (nI_leI (a := (aL A t).length) (b := c) (by omega) (by omega)).mpr d
      rw [L3, nI_mul, nI_add]
      refine t_be (rI_n (by omega) (by omega)) ?_
      rw [e2 c (by omega), one_shl _ (w.2.1 c (by omega)), fa_or, nI_1]
      refine t_nx ?_ (show 20 - (nI (c + 1)).toInt.toNat < 20 - (nI c).toInt.toNat by rw [nIt (by omega), nIt (by omega)]; omega)
      exact ⟨c + 1, by omega, rfl⟩
  unfold fX9_lettersOf
  rw [show ((0 : Int32), (0 : Int32)) = (nI 0, nI 0) from rfl, key, obs]
theorem n_usedK {I : gM} {A : aT} {t : Nat} (hW : WF A) (hR : RT I (I 70) A) (ht : t < 4) : fX9_isUsed (nI t) I = some (if A.2.1.testBit t then 1 else 0) := by
  have q := hs_nI (m := A.2.1) (l := t) hW.u ht
  have e := hR.2.1
  by_cases c : A.2.1.testBit t = true
  · rw [if_pos c]
    exact n_isUsed1 (by rw [e]; exact q.mpr c)
  · rw [if_neg c]
    exact n_isUsed0 (by rw [e]; exact fun z => c (q.mp z))
/-- the letters asked, as bits -/
def asA (A : aT) : Nat := orUp (fun t => if A.2.1.testBit t then bL A t else 0) A.1.length
theorem asA_lt {A : aT} (h : WF A) : asA A < 16 := orUp_lt (fun t ht => by
  split
  · exact bL_lt (h.2.2.2.2 t ht)
  · decide)
theorem c_asked {I : gM} {k : Nat} {A : aT} (hW : WF A) (hC : CT I k A) : fX5_asked k I = some (nI (asA A)) := by
  have hn4 := hW.1
  have key : lX5_asked_4 k I (nI 0, nI 0) = some (nI (asA A)) := by
    unfold lX5_asked_4
    refine p_it (P := fun s => ∃ t, t ≤ A.1.length ∧ s = (nI (orUp (fun t => if A.2.1.testBit t then bL A t else 0) t), nI t)) (μ := fun s => 20 - s.2.toInt.toNat) (fun s p => ?_) ⟨0, by omega, rfl⟩
    obtain ⟨t, hc, rfl⟩ := p
    dsimp only
    have mu : t < 4 → 20 - (nI (t + 1)).toInt.toNat < 20 - (nI t).toInt.toNat := fun _ => by rw [nIt (by omega), nIt (by omega)]; omega
    refine t_ite (fun d => ?_) (fun d => ?_)
    · rw [hC.1] at d
      have d := (nI_leI (by omega) (by omega)).mp d
      have : t = A.1.length := by omega
      subst this
      exact t_ret (show nI (orUp _ _) = nI (asA A) from rfl)
    · rw [hC.1] at d
      have d := mt (nI_leI (a := A.1.length) (b := t) (by omega) (by omega)).mpr d
      refine t_be (c_isUsed hW hC (by omega)) ?_
      unfold bX5_asked_28
      by_cases u : A.2.1.testBit t = true
      · rw [if_pos u, if_neg n10]
        refine t_be (c_lettersOf hW hC (by omega)) ?_
        rw [fa_or, nI_1]
        refine t_nx ⟨t + 1, by omega, ?_⟩ (mu (by omega))
        show (_, _) = (nI (orUp _ t ||| (if A.2.1.testBit t then bL A t else 0)), _)
        rw [if_pos u]
      · rw [if_neg u, if_pos rfl, nI_1]
        refine t_nx ⟨t + 1, by omega, ?_⟩ (mu (by omega))
        show (_, _) = (nI (orUp _ t ||| (if A.2.1.testBit t then bL A t else 0)), _)
        rw [if_neg u, Nat.or_zero]
  unfold fX5_asked
  rw [show ((0 : Int32), (0 : Int32)) = (nI 0, nI 0) from rfl, key, obs]
theorem n_askedK {I : gM} {A : aT} (hW : WF A) (hR : RT I (I 70) A) : fX9_asked I = some (nI (asA A)) := by
  have hn4 := hW.1
  have key : lX9_asked_4 I (nI 0, nI 0) = some (nI (asA A)) := by
    unfold lX9_asked_4
    refine p_it (P := fun s => ∃ t, t ≤ A.1.length ∧ s = (nI (orUp (fun t => if A.2.1.testBit t then bL A t else 0) t), nI t)) (μ := fun s => 20 - s.2.toInt.toNat) (fun s p => ?_) ⟨0, by omega, rfl⟩
    obtain ⟨t, hc, rfl⟩ := p
    dsimp only
    have mu : t < 4 → 20 - (nI (t + 1)).toInt.toNat < 20 - (nI t).toInt.toNat := fun _ => by rw [nIt (by omega), nIt (by omega)]; omega
    refine t_ite (fun d => ?_) (fun d => ?_)
    · rw [hR.1] at d
      have d := (nI_leI (by omega) (by omega)).mp d
      have : t = A.1.length := by omega
      subst this
      exact t_ret (show nI (orUp _ _) = nI (asA A) from rfl)
    · rw [hR.1] at d
      have d := mt (nI_leI (a := A.1.length) (b := t) (by omega) (by omega)).mpr d
      refine t_be (n_usedK hW hR (by omega)) ?_
      unfold bX9_asked_30
      by_cases u : A.2.1.testBit t = true
      · rw [if_pos u, if_neg n10]
        refine t_be (n_lettersK hW hR (by omega)) ?_
        rw [fa_or, nI_1]
        refine t_nx ⟨t + 1, by omega, ?_⟩ (mu (by omega))
        show (_, _) = (nI (orUp _ t ||| (if A.2.1.testBit t then bL A t else 0)), _)
        rw [if_pos u]
      · rw [if_neg u, if_pos rfl, L0, fa_or, nI_1]
        refine t_nx ⟨t + 1, by omega, ?_⟩ (mu (by omega))
        show (_, _) = (nI (orUp _ t ||| (if A.2.1.testBit t then bL A t else 0)), _)
        rw [if_neg u]
  unfold fX9_asked
  rw [show ((0 : Int32), (0 : Int32)) = (nI 0, nI 0) from rfl, key, obs]
theorem c_allRows {I : gM} {k : Nat} {A : aT} (hW : WF A) (hC : CT I k A) : fX5_allRows k I = some (nI (suUp (fun t => (aK A t).length) A.1.length)) := by
  have hn4 := hW.1
  have key : lX5_allRows_4 k I (nI 0, nI 0) = some (nI (suUp (fun t => (aK A t).length) A.1.length)) := by
    unfold lX5_allRows_4
    refine p_it (P := fun s => ∃ t, t ≤ A.1.length ∧ s = (nI (suUp (fun t => (aK A t).length) t), nI t)) (μ := fun s => 20 - s.2.toInt.toNat) (fun s p => ?_) ⟨0, by omega, rfl⟩
    obtain ⟨t, hc, rfl⟩ := p
    dsimp only
    refine t_ite (fun d => ?_) (fun d => ?_)
    · rw [hC.1] at d
      have d := (nI_leI (by omega) (by omega)).mp d
      have : t = A.1.length := by omega
      subst this
      exact t_ret rfl
    · rw [hC.1] at d
      have d := mt (nI_leI (a := A.1.length) (b := t) (by omega) (by omega)).mpr d
      refine t_be (rI_n (by omega) (by omega)) ?_
      rw [(hC.2.2.2 t (by omega)).2.2.1, nI_add, nI_1]
      exact t_nx ⟨t + 1, by omega, rfl⟩ (show 20 - (nI (t + 1)).toInt.toNat < 20 - (nI t).toInt.toNat by rw [nIt (by omega), nIt (by omega)]; omega)
  unfold fX5_allRows
  rw [show ((0 : Int32), (0 : Int32)) = (nI 0, nI 0) from rfl, key, obs]
theorem n_rowsOfAllK {I : gM} {A : aT} (hW : WF A) (hR : RT I (I 70) A) : fX9_rowsOfAll I = some (nI (suUp (fun t => (aK A t).length) A.1.length)) := by
  have hn4 := hW.1
  have key : lX9_rowsOfAll_4 I (nI 0, nI 0) = some (nI (suUp (fun t => (aK A t).length) A.1.length)) := by
    unfold lX9_rowsOfAll_4
    refine p_it (P := fun s => ∃ t, t ≤ A.1.length ∧ s = (nI (suUp (fun t => (aK A t).length) t), nI t)) (μ := fun s => 20 - s.2.toInt.toNat) (fun s p => ?_) ⟨0, by omega, rfl⟩
    obtain ⟨t, hc, rfl⟩ := p
    dsimp only
    refine t_ite (fun d => ?_) (fun d => ?_)
    · rw [hR.1] at d
      have d := (nI_leI (by omega) (by omega)).mp d
      have : t = A.1.length := by omega
      subst this
      exact t_ret rfl
    · rw [hR.1] at d
      have d := mt (nI_leI (a := A.1.length) (b := t) (by omega) (by omega)).mpr d
      refine t_be (n_many (by omega) I) ?_
      rw [(hR.2.2.2 t (by omega)).2.2.1, nI_add, nI_1]
      exact t_nx ⟨t + 1, by omega, rfl⟩ (show 20 - (nI (t + 1)).toInt.toNat < 20 - (nI t).toInt.toNat by rw [nIt (by omega), nIt (by omega)]; omega)
  unfold fX9_rowsOfAll
  rw [show ((0 : Int32), (0 : Int32)) = (nI 0, nI 0) from rfl, key, obs]
theorem c_plainK {I : gM} {A : aT} (hW : WF A) (hC : CT I 3 A) : lX8_plain_16 I (nI 1, nI 0) = some (nI (prUp (fun t => if A.2.1.testBit t then (aK A t).length else 1) A.1.length)) := by
  have hn4 := hW.1
  unfold lX8_plain_16
  refine p_it (P := fun s => ∃ t, t ≤ A.1.length ∧ s = (nI (prUp (fun t => if A.2.1.testBit t then (aK A t).length else 1) t), nI t)) (μ := fun s => 20 - s.2.toInt.toNat) (fun s p => ?_) ⟨0, by omega, rfl⟩
  obtain ⟨t, hc, rfl⟩ := p
  dsimp only
  have mu : t < 4 → 20 - (nI (t + 1)).toInt.toNat < 20 - (nI t).toInt.toNat := fun _ => by rw [nIt (by omega), nIt (by omega)]; omega
  refine t_ite (fun d => ?_) (fun d => ?_)
  · rw [hC.1] at d
    have d := (nI_leI (by omega) (by omega)).mp d
    have : t = A.1.length := by omega
    subst this
    exact t_ret rfl
  · rw [hC.1] at d
    have d := mt (nI_leI (a := A.1.length) (b := t) (by omega) (by omega)).mpr d
    refine t_be (c_isUsed hW hC (by omega)) ?_
    unfold bX8_plain_50
    by_cases u : A.2.1.testBit t = true
    · rw [if_pos u, if_neg n10]
      refine t_be (rI_n (by omega) (by omega)) ?_
      rw [show I 5 t = nI (aK A t).length from (hC.2.2.2 t (by omega)).2.2.1, nI_mul, nI_1]
      refine t_nx ⟨t + 1, by omega, ?_⟩ (mu (by omega))
      show (_, _) = (nI (prUp _ t * (if A.2.1.testBit t then (aK A t).length else 1)), _)
      rw [if_pos u]
    · rw [if_neg u, if_pos rfl, nI_1]
      refine t_nx ⟨t + 1, by omega, ?_⟩ (mu (by omega))
      show (_, _) = (nI (prUp _ t * (if A.2.1.testBit t then (aK A t).length else 1)), _)
      rw [if_neg u, Nat.mul_one]
theorem n_plainK {I : gM} {A : aT} (hW : WF A) (hR : RT I (I 70) A) : lX9_plain_13 I (nI 1, nI 0) = some (nI (prUp (fun t => if A.2.1.testBit t then (aK A t).length else 1) A.1.length)) := by
  have hn4 := hW.1
  unfold lX9_plain_13
  refine p_it (P := fun s => ∃ t, t ≤ A.1.length ∧ s = (nI (prUp (fun t => if A.2.1.testBit t then (aK A t).length else 1) t), nI t)) (μ := fun s => 20 - s.2.toInt.toNat) (fun s p => ?_) ⟨0, by omega, rfl⟩
  obtain ⟨t, hc, rfl⟩ := p
  dsimp only
  have mu : t < 4 → 20 - (nI (t + 1)).toInt.toNat < 20 - (nI t).toInt.toNat := fun _ => by rw [nIt (by omega), nIt (by omega)]; omega
  refine t_ite (fun d => ?_) (fun d => ?_)
  · rw [hR.1] at d
    have d := (nI_leI (by omega) (by omega)).mp d
    have : t = A.1.length := by omega
    subst this
    exact t_ret rfl
  · rw [hR.1] at d
    have d := mt (nI_leI (a := A.1.length) (b := t) (by omega) (by omega)).mpr d
    refine t_be (n_usedK hW hR (by omega)) ?_
    unfold bX9_plain_39
    by_cases u : A.2.1.testBit t = true
    · rw [if_pos u, if_neg n10]
      refine t_be (n_many (by omega) I) ?_
      rw [(hR.2.2.2 t (by omega)).2.2.1, nI_mul, nI_1]
      refine t_nx ⟨t + 1, by omega, ?_⟩ (mu (by omega))
      show (_, _) = (nI (prUp _ t * (if A.2.1.testBit t then (aK A t).length else 1)), _)
      rw [if_pos u]
    · rw [if_neg u, if_pos rfl, show (1 : Int32) = nI 1 from rfl, nI_mul, nI_add]
      refine t_nx ⟨t + 1, by omega, ?_⟩ (mu (by omega))
      show (_, _) = (nI (prUp _ t * (if A.2.1.testBit t then (aK A t).length else 1)), _)
      rw [if_neg u]
/-! the calls -/
/-- the tables as they are now -/
theorem InvA.now {C : Nat} {I : gM} (h : InvA C I) : ∃ A, WF A ∧ CT I 3 A ∧ RT I (I 70) A := by
  obtain ⟨_, _, _, _, S, m, nx, hR⟩ := h
  exact ⟨S m, hR.2.1 m (Nat.le_refl _), hR.2.2.1.1, hR.2.2.1.2.1⟩
theorem all_rule {C : Nat} {I : gM} (h : InvA C I) (v : Int32) : ∃ a b, fX8_rule v I = some a ∧ fX9_rule v I = some b ∧ InvA C I ∧ a = b := by
  obtain ⟨A, hW, hC, hR⟩ := h.now
  have hn4 := hW.1
  unfold fX8_rule fX9_rule
  rw [hC.1, n_areTables hn4 hR.1, obs]
  by_cases n0 : A.1.length = 0
  · rw [n0, if_pos (show nI 0 = 0 from rfl), if_pos rfl, if_pos rfl]
    exact ⟨_, _, rfl, rfl, h, rfl⟩
  · rw [if_neg (show ¬ nI A.1.length = 0 from fun q => n0 (nI_inj (b := 0) q (by omega) (by omega))), if_neg n0, if_neg n10]
    have t4 : (4 : Int32).toInt = 4 := by decide
    have hin := n_in v 0 4
    rw [t0i, t4] at hin
    have inn : 0 ≤ v.toInt ∧ v.toInt ≤ 4 → fX9_in v 0 4 = some 1 := fun q => by
      rcases hin with ⟨_, _, z⟩ | ⟨z, _⟩
      · exact z
      · exact absurd q z
    by_cases c0 : v = 0
    · rw [if_pos c0, inn (by rw [c0]; decide), obs, if_neg n10, if_pos c0, hR.1]
      exact ⟨_, _, rfl, rfl, h, rfl⟩
    rw [if_neg c0]
    by_cases c1 : v = 1
    · rw [if_pos c1, inn (by rw [c1]; decide), obs, if_neg n10, if_neg c0, if_pos c1, show rI 331 (I 70) 0 = some (I 70 0) from rI_n (a := 0) (by omega) (by omega), obs, hR.2.1, hC.2.1]
      exact ⟨_, _, rfl, rfl, h, rfl⟩
    rw [if_neg c1]
    by_cases c2 : v = 2
    · rw [if_pos c2, inn (by rw [c2]; decide), obs, if_neg n10, if_neg c0, if_neg c1, if_pos c2, show rI 331 (I 70) 1 = some (I 70 1) from rI_n (a := 1) (by omega) (by omega), obs, hR.2.2.1, hC.2.2.1]
      exact ⟨_, _, rfl, rfl, h, rfl⟩
    rw [if_neg c2]
    by_cases c3 : v = 3
    · rw [if_pos c3, inn (by rw [c3]; decide), obs, if_neg n10, if_neg c0, if_neg c1, if_neg c2, if_pos c3, c_asked hW hC, obs, n_askedK hW hR, obs]
      exact ⟨_, _, rfl, rfl, h, rfl⟩
    rw [if_neg c3]
    by_cases c4 : v = 4
    · rw [if_pos c4, inn (by rw [c4]; decide), obs, if_neg n10, if_neg c0, if_neg c1, if_neg c2, if_neg c3, c_allRows hW hC, obs, n_rowsOfAllK hW hR, obs]
      exact ⟨_, _, rfl, rfl, h, rfl⟩
    rw [if_neg c4]
    rcases hin with ⟨z1, z2, _⟩ | ⟨_, z⟩
    · exfalso
      have e := nI_self (x := v) (by omega)
      have : v.toInt.toNat = 0 ∨ v.toInt.toNat = 1 ∨ v.toInt.toNat = 2 ∨ v.toInt.toNat = 3 ∨ v.toInt.toNat = 4 := by omega
      rcases this with q | q | q | q | q
      · rw [q] at e; exact c0 e
      · rw [q] at e; exact c1 e
      · rw [q] at e; exact c2 e
      · rw [q] at e; exact c3 e
      · rw [q] at e; exact c4 e
    · rw [z, obs, if_pos rfl]
      exact ⟨_, _, rfl, rfl, h, rfl⟩
theorem all_plain {C : Nat} {I : gM} (h : InvA C I) : ∃ a b, fX8_plain I = some a ∧ fX9_plain I = some b ∧ InvA C I ∧ a = b := by
  obtain ⟨A, hW, hC, hR⟩ := h.now
  have hn4 := hW.1
  unfold fX8_plain fX9_plain
  rw [hC.1, n_areTables hn4 hR.1, obs]
  by_cases n0 : A.1.length = 0
  · rw [n0, if_pos (show nI 0 = 0 from rfl), if_pos rfl, if_pos rfl]
    exact ⟨_, _, rfl, rfl, h, rfl⟩
  · rw [if_neg (show ¬ nI A.1.length = 0 from fun q => n0 (nI_inj (b := 0) q (by omega) (by omega))), if_neg n0, if_neg n10, show ((1 : Int32), (0 : Int32)) = (nI 1, nI 0) from rfl, c_plainK hW hC, obs, n_plainK hW hR, obs]
    exact ⟨_, _, rfl, rfl, h, rfl⟩
/-- an int below a number, or not -/
theorem i_below (v : Int32) {n : Nat} (hn : n < 2 ^ 31) : (∃ i, i < n ∧ v = nI i) ∨ (v < 0 ∧ ¬ (0 ≤ v.toInt ∧ v.toInt ≤ (n : Int) - 1)) ∨ (¬ v < 0 ∧ nI n ≤ v ∧ ¬ (0 ≤ v.toInt ∧ v.toInt ≤ (n : Int) - 1)) := by
  by_cases c : v < 0
  · have c' := (iLT (a := v) (b := 0) rfl t0i).mp c
    exact Or.inr (Or.inl ⟨c, fun z => by omega⟩)
  · have c' := mt (iLT (a := v) (b := 0) rfl t0i).mpr c
    by_cases d : nI n ≤ v
    · have d' := (iLE (a := nI n) (b := v) (tnI hn) rfl).mp d
      exact Or.inr (Or.inr ⟨c, d, fun z => by omega⟩)
    · have d' := mt (iLE (a := nI n) (b := v) (tnI hn) rfl).mpr d
      exact Or.inl ⟨v.toInt.toNat, by omega, nI_self (by omega)⟩
theorem in_yes {i n : Nat} (hi : i < n) (hn : n < 2 ^ 31) {b : Int32} (hb : b.toInt = (n : Int) - 1) : fX9_in (nI i) 0 b = some 1 := by
  rcases n_in (nI i) 0 b with ⟨_, _, z⟩ | ⟨z, _⟩
  · exact z
  · exact absurd ⟨by rw [t0i, tnI (by omega)]; omega, by rw [tnI (by omega), hb]; omega⟩ z
theorem in_no {v : Int32} {n : Nat} {b : Int32} (hb : b.toInt = (n : Int) - 1) (h : ¬ (0 ≤ v.toInt ∧ v.toInt ≤ (n : Int) - 1)) : fX9_in v 0 b = some 0 := by
  rcases n_in v 0 b with ⟨z1, z2, _⟩ | ⟨_, z⟩
  · rw [t0i] at z1
    rw [hb] at z2
    exact absurd ⟨z1, z2⟩ h
  · exact z
theorem nI_m1i {n : Nat} (hn : n < 2 ^ 31) : (nI n - 1).toInt = (n : Int) - 1 := tS (tnI hn) t1i (by omega) (by omega)
theorem all_status {C : Nat} {I : gM} (h : InvA C I) (v : Int32) : ∃ a b, fX8_status v I = some a ∧ fX9_status v I = some b ∧ InvA C I ∧ a = b := by
  obtain ⟨_, _, _, _, S, m, nx, hR⟩ := id h
  have hr := InvS.refs hR
  unfold fX8_status fX9_status
  have t3 : (3 : Int32).toInt = ((4 : Nat) : Int) - 1 := by decide
  rcases i_below v (n := 4) (by omega) with ⟨i, hi, rfl⟩ | ⟨c, z⟩ | ⟨c, d, z⟩
  · rw [L0, if_neg (mt (nI_ltI (by omega) (by omega)).mp (by omega)), L4, if_neg (mt (nI_leI (by omega) (by omega)).mp (by omega)), rI_n hi (by omega), obs, show fX9_in (nI i) (nI 0) 3 = some 1 from in_yes hi (by omega) t3, obs, if_neg (show ¬ (1 : Int32) = nI 0 from n10), rI_n hi (by omega), obs]
    exact ⟨_, _, rfl, rfl, h, hr i hi⟩
  · rw [if_pos c, in_no t3 z, obs, if_pos rfl]
    exact ⟨_, _, rfl, rfl, h, rfl⟩
  · rw [if_neg c, if_pos (show (4 : Int32) ≤ v from d), in_no t3 z, obs, if_pos rfl]
    exact ⟨_, _, rfl, rfl, h, rfl⟩
theorem all_count {C : Nat} {I : gM} (h : InvA C I) (v : Int32) : ∃ a b, fX8_count v I = some a ∧ fX9_count v I = some b ∧ InvA C I ∧ a = b := by
  obtain ⟨_, _, ⟨n, _, t1, t2, _⟩, hSc, S, m, nx, hR⟩ := id h
  obtain ⟨⟨a1, a2, a3, a4, a5⟩, hW, ⟨b1, b2, nl, H, l1, l2, _, l4, l5, l6, _⟩, _⟩ := hR
  unfold fX8_count fX9_count
  by_cases c0 : v = 0
  · rw [if_pos c0, if_pos c0]
    exact ⟨_, _, rfl, rfl, h, b1.1.trans b2.1.symm⟩
  rw [if_neg c0, if_neg c0]
  by_cases c1 : v = 1
  · rw [if_pos c1, if_pos c1]
    exact ⟨_, _, rfl, rfl, h, hSc.1⟩
  rw [if_neg c1, if_neg c1]
  by_cases c2 : v = 2
  · rw [if_pos c2, if_pos c2]
    exact ⟨_, _, rfl, rfl, h, t1.trans t2.symm⟩
  rw [if_neg c2, if_neg c2]
  by_cases c3 : v = 3
  · rw [if_pos c3, if_pos c3]
    unfold fX2_shown
    rw [obs, l5, L60, mN_n (by omega) (by omega), show rI 331 (I 70) 150 = some (I 70 150) from rI_n (a := 150) (by omega) (by omega), obs, l6]
    exact ⟨_, _, rfl, rfl, h, by rw [Nat.sub_zero]⟩
  rw [if_neg c3, if_neg c3]
  by_cases c4 : v = 4
  · rw [if_pos c4, if_pos c4]
    exact ⟨_, _, rfl, rfl, h, a3.trans a5.symm⟩
  rw [if_neg c4, if_neg c4]
  exact ⟨_, _, rfl, rfl, h, rfl⟩
theorem all_cell {C : Nat} {I : gM} (h : InvA C I) (v1 v2 v3 : Int32) : ∃ a b, fX8_cell v1 v2 v3 I = some a ∧ fX9_cell v1 v2 v3 I = some b ∧ InvA C I ∧ a = b := by
  obtain ⟨A, hW, hC, hR⟩ := h.now
  have hn4 := hW.1
  rcases c_isTable hn4 hC.1 v1 with ⟨t, ht, rfl, e1⟩ | ⟨hno, e1⟩
  · have w := hW.2.2.2.2 t ht
    have w1 := w.1
    have w4 := w.2.2.2.1
    have hRt := (hR.2.2.2 t ht).2.2
    have e2 : fX9_isTable (nI t) I = some 1 := by
      rcases n_isTable hn4 hR.1 (nI t) with ⟨_, _, _, z⟩ | ⟨z, _⟩
      · exact z
      · exact absurd rfl (z t ht)
    have eR : fX9_cell (nI t) v2 v3 I = (fX9_in v2 0 (nI (aK A t).length - 1)).bind fun r3 => if r3 = 0 then some (-1) else (fX9_in v3 0 (nI (aL A t).length - 1)).bind fun r5 => if r5 = 0 then some (-1) else (fX9_rowAt (nI t) v2).bind fun r6 => (rI 331 (I 70) (r6 + v3)).bind fun u7 => some u7 := by
      unfold fX9_cell
      rw [e2, obs, if_neg n10, n_many (by omega), obs, hRt.1, rI_n (by omega) (by omega), obs, (hR.2.2.2 t ht).1]
    have eC : fX8_cell (nI t) v2 v3 I = if v2 < 0 then some (-1) else if nI (aK A t).length ≤ v2 then some (-1) else if v3 < 0 then some (-1) else if v3 < nI (aL A t).length then (fX5_rowAt 3 (nI t) v2 I).bind fun r4 => some ((r4 >>> (((14 : Int32) - ((7 : Int32) * v3)) &&& 31)) &&& 127) else some (-1) := by
      unfold fX8_cell
      rw [e1, obs, if_neg n10, rI_n (by omega) (by omega), obs, show I 5 t = nI (aK A t).length from (hC.2.2.2 t ht).2.2.1, rI_n (by omega) (by omega), obs, show I 4 t = nI (aL A t).length from (hC.2.2.2 t ht).1]
    rw [eR, eC]
    rcases i_below v2 (n := (aK A t).length) (by omega) with ⟨i, hi, rfl⟩ | ⟨c, z⟩ | ⟨c, d, z⟩
    · rw [in_yes hi (by omega) (nI_m1i (by omega)), obs, if_neg n10, if_neg (show ¬ nI i < 0 by rw [L0]; exact mt (nI_ltI (by omega) (by omega)).mp (by omega)), if_neg (mt (nI_leI (by omega) (by omega)).mp (by omega))]
      rcases i_below v3 (n := (aL A t).length) (by omega) with ⟨c, hc, rfl⟩ | ⟨c, z⟩ | ⟨c, d, z⟩
      · rw [in_yes hc (by omega) (nI_m1i (by omega)), obs, if_neg n10, if_neg (show ¬ nI c < 0 by rw [L0]; exact mt (nI_ltI (by omega) (by omega)).mp (by omega)), if_pos ((nI_ltI (by omega) (by omega)).mpr hc), c_rowAt (by omega) w4 (hC.2.2.2 t ht).2.2 hi, obs, cell_v (k_lt w i hi) (by omega), n_rowAt, obs, nI_add, rI_n (by omega) (by omega), obs, hRt.2 i hi c (by omega), if_pos hc]
        exact ⟨_, _, rfl, rfl, h, rfl⟩
      · rw [if_pos c, in_no (nI_m1i (by omega)) z, obs, if_pos rfl]
        exact ⟨_, _, rfl, rfl, h, rfl⟩
      · rw [if_neg c, in_no (nI_m1i (by omega)) z, obs, if_pos rfl, if_neg (fun q => by
          have q1 := (iLT (a := v3) (b := nI (aL A t).length) rfl (tnI (by omega))).mp q
          have q2 := (iLE (a := nI (aL A t).length) (b := v3) (tnI (by omega)) rfl).mp d
          omega)]
        exact ⟨_, _, rfl, rfl, h, rfl⟩
    · rw [if_pos c, in_no (nI_m1i (by omega)) z, obs, if_pos rfl]
      exact ⟨_, _, rfl, rfl, h, rfl⟩
    · rw [if_neg c, if_pos d, in_no (nI_m1i (by omega)) z, obs, if_pos rfl]
      exact ⟨_, _, rfl, rfl, h, rfl⟩
  · have e2 : fX9_isTable v1 I = some 0 := by
      rcases n_isTable hn4 hR.1 v1 with ⟨t, z1, z2, _⟩ | ⟨_, z⟩
      · exact absurd z2 (hno t z1)
      · exact z
    unfold fX8_cell fX9_cell
    rw [e1, obs, if_pos rfl, e2, obs, if_pos rfl]
    exact ⟨_, _, rfl, rfl, h, rfl⟩
theorem all_step {C : Nat} {I : gM} (h : InvA C I) (v1 v2 v3 : Int32) : ∃ a b, fX8_step v1 v2 v3 I = some a ∧ fX9_step v1 v2 v3 I = some b ∧ InvA C I ∧ a = b := by
  obtain ⟨hM, _, _, hSc, _⟩ := id h
  obtain ⟨n, hn, en⟩ := hM.n (k := 62) (j := 12) (hi := 4) rfl
  rcases scr_n hSc hn en v1 with ⟨s, hs, rfl, e1⟩ | ⟨hno, e1⟩
  · have e2 : fX9_isScript (nI s) I = some 1 := by
      rcases n_isScript hn en (nI s) with ⟨_, _, _, z⟩ | ⟨z, _⟩
      · exact z
      · exact absurd rfl (z s hs)
    obtain ⟨ss, k1, k2, k3, _⟩ := hSc.2 s (by omega) (by rw [en, nIt (by omega)]; omega)
    have k12 := k1.2.1
    have t4 : (4 : Int32).toInt = ((5 : Nat) : Int) - 1 := by decide
    have eR : fX9_step (nI s) v2 v3 I = (fX9_in v2 0 (nI ss.length - 1)).bind fun r3 => if r3 = 0 then some (-1000000) else (fX9_in v3 0 4).bind fun r4 => if r4 = 0 then some (-1000000) else (rI 300 (I 68) (((5 : Int32) * (((12 : Int32) * nI s) + v2)) + v3)).bind fun u5 => some u5 := by
      unfold fX9_step
      rw [e2, obs, if_neg n10, rI_n (by omega) (by omega), obs, k2]
    have eC : fX8_step (nI s) v2 v3 I = if v2 < 0 then some (-1000000) else if nI ss.length ≤ v2 then some (-1000000) else if v3 < 0 then some (-1000000) else if v3 < 5 then (fX4_partOf (54 + 2 * s) v2 v3 I).bind fun r4 => some r4 else some (-1000000) := by
      unfold fX8_step
      rw [e1, obs, if_neg n10, rA_n (by omega), obs, k1.1, obs]
    rw [eR, eC]
    rcases i_below v2 (n := ss.length) (by omega) with ⟨i, hi, rfl⟩ | ⟨c, z⟩ | ⟨c, d, z⟩
    · rw [in_yes hi (by omega) (nI_m1i (by omega)), obs, if_neg n10, if_neg (show ¬ nI i < 0 by rw [L0]; exact mt (nI_ltI (by omega) (by omega)).mp (by omega)), if_neg (mt (nI_leI (by omega) (by omega)).mp (by omega))]
      rcases i_below v3 (n := 5) (by omega) with ⟨c, hc, rfl⟩ | ⟨c, z⟩ | ⟨c, d, z⟩
      · rw [in_yes hc (by omega) t4, obs, if_neg n10, if_neg (show ¬ nI c < 0 by rw [L0]; exact mt (nI_ltI (by omega) (by omega)).mp (by omega)), if_pos (show nI c < (5 : Int32) from (nI_ltI (b := 5) (by omega) (by omega)).mpr hc), partOf_n (by omega), obs, k1.2.2 _ (by omega), a12, L5, nI_mul, nI_add, rI_n (by omega) (by omega), obs, show 5 * (12 * s + i) + c = 60 * s + (5 * i + c) by omega, k3 _ (by omega)]
        exact ⟨_, _, rfl, rfl, h, rfl⟩
      · rw [if_pos c, in_no t4 z, obs, if_pos rfl]
        exact ⟨_, _, rfl, rfl, h, rfl⟩
      · rw [if_neg c, in_no t4 z, obs, if_pos rfl, if_neg (fun q => by
          have q1 := (iLT (a := v3) (b := 5) rfl (by decide : (5 : Int32).toInt = 5)).mp q
          have q2 := (iLE (a := nI 5) (b := v3) (tnI (by omega)) rfl).mp d
          omega)]
        exact ⟨_, _, rfl, rfl, h, rfl⟩
    · rw [if_pos c, in_no (nI_m1i (by omega)) z, obs, if_pos rfl]
      exact ⟨_, _, rfl, rfl, h, rfl⟩
    · rw [if_neg c, if_pos d, in_no (nI_m1i (by omega)) z, obs, if_pos rfl]
      exact ⟨_, _, rfl, rfl, h, rfl⟩
  · have e2 : fX9_isScript v1 I = some 0 := by
      rcases n_isScript hn en v1 with ⟨t, z1, z2, _⟩ | ⟨_, z⟩
      · exact absurd z2 (hno t z1)
      · exact z
    unfold fX8_step fX9_step
    rw [e1, obs, if_pos rfl, e2, obs, if_pos rfl]
    exact ⟨_, _, rfl, rfl, h, rfl⟩
/-- the log, where the rows behind an act are the same too -/
theorem all_log3 {I : gM} (h : InvA 3 I) (v1 v2 : Int32) : ∃ a b, fX8_log v1 v2 I = some a ∧ fX9_log v1 v2 I = some b ∧ InvA 3 I ∧ a = b := by
  obtain ⟨_, _, _, _, S, m, nx, hR⟩ := id h
  obtain ⟨nl, H, l1, l2, _, l4, l5, l6, l7⟩ := hR.2.2.1.2.2
  rw [Nat.sub_zero] at l6 l7
  generalize hL : min H 60 = L at *
  have hL60 : L ≤ 60 := by omega
  have t2 : (2 : Int32).toInt = ((3 : Nat) : Int) - 1 := by decide
  have eR : fX9_log v1 v2 I = (fX9_in v1 0 (nI L - 1)).bind fun r2 => if r2 = 0 then some (-1000000) else (fX9_in v2 0 2).bind fun r3 => if r3 = 0 then some (-1000000) else (rI 331 (I 70) (((151 : Int32) + ((3 : Int32) * ((nI L - 1) - v1))) + v2)).bind fun u5 => some u5 := by
    unfold fX9_log
    rw [show rI 331 (I 70) 150 = some (I 70 150) from rI_n (a := 150) (by omega) (by omega), obs, obs, l6]
  have eC : fX8_log v1 v2 I = if v1 < 0 then some (-1000000) else if nI L ≤ v1 then some (-1000000) else if v2 < 0 then some (-1000000) else if v2 < 3 then (fX2_partOf 44 v1 v2 I).bind fun r2 => some r2 else some (-1000000) := by
    unfold fX8_log fX2_shown
    rw [obs, l5, L60, mN_n (by omega) (by omega), hL]
  rw [eR, eC]
  rcases i_below v1 (n := L) (by omega) with ⟨i, hi, rfl⟩ | ⟨c, z⟩ | ⟨c, d, z⟩
  · rw [in_yes hi (by omega) (nI_m1i (by omega)), obs, if_neg n10, if_neg (show ¬ nI i < 0 by rw [L0]; exact mt (nI_ltI (by omega) (by omega)).mp (by omega)), if_neg (mt (nI_leI (by omega) (by omega)).mp (by omega))]
    rcases i_below v2 (n := 3) (by omega) with ⟨c, hc, rfl⟩ | ⟨c, z⟩ | ⟨c, d, z⟩
    · have hm : (nl + 99 - i) % 100 < 100 := Nat.mod_lt _ (by decide)
      have ep : fX2_partOf 44 (nI i) (nI c) I = some (I 45 (3 * ((nl + 99 - i) % 100) + c)) := by
        unfold fX2_partOf
        rw [l4, L100, nI_add, nI_s1 (by omega), nI_sub (by omega), iR_n (by omega) (by omega) (by omega), L3, nI_mul, nI_add, rI_n (by omega) (by omega), obs, show nl + 100 - 1 - i = nl + 99 - i by omega, show (nl + 99 - i) % 100 * 3 + c = 3 * ((nl + 99 - i) % 100) + c by omega]
      have q := l7 i hi c hc
      rw [in_yes hc (by omega) t2, obs, if_neg n10, if_neg (show ¬ nI c < 0 by rw [L0]; exact mt (nI_ltI (by omega) (by omega)).mp (by omega)), if_pos (show nI c < (3 : Int32) from (nI_ltI (b := 3) (by omega) (by omega)).mpr hc), ep, obs, nI_s1 (by omega), nI_sub (by omega), L3, nI_mul, L151, nI_add, nI_add, rI_n (by omega) (by omega), obs, q]
      exact ⟨_, _, rfl, rfl, h, rfl⟩
    · rw [if_pos c, in_no t2 z, obs, if_pos rfl]
      exact ⟨_, _, rfl, rfl, h, rfl⟩
    · rw [if_neg c, in_no t2 z, obs, if_pos rfl, if_neg (fun q => by
        have q1 := (iLT (a := v2) (b := 3) rfl (by decide : (3 : Int32).toInt = 3)).mp q
        have q2 := (iLE (a := nI 3) (b := v2) (tnI (by omega)) rfl).mp d
        omega)]
      exact ⟨_, _, rfl, rfl, h, rfl⟩
  · rw [if_pos c, in_no (nI_m1i (by omega)) z, obs, if_pos rfl]
    exact ⟨_, _, rfl, rfl, h, rfl⟩
  · rw [if_neg c, if_pos d, in_no (nI_m1i (by omega)) z, obs, if_pos rfl]
    exact ⟨_, _, rfl, rfl, h, rfl⟩
/-- the class's object as it was, the reference's join at most another one -/
theorem InvA.ref {C : Nat} {I b : gM} (h : InvA C I) (hC : C ≤ 3) (Mb : MI false I b) (k62 : ∀ j, j = 2 ∨ j = 12 ∨ j = 17 ∨ j = 29 ∨ j = 42 → b 62 j = I 62 j) (kk : ∀ k, k = 63 ∨ k = 68 ∨ k = 69 ∨ k = 70 ∨ k = 71 ∨ k = 72 ∨ k = 73 ∨ k = 81 ∨ k = 89 → b k = I k) : InvA C b := by
  obtain ⟨hM, hA, hT, hSc, S, m, nx, hR⟩ := h
  have lo : ∀ k, k < 62 → b k = I k := fun k hk => Mb.lo hk
  exact ⟨hM.both Mb, hA.same (k62 17 (by omega)) (k62 29 (by omega)) (k62 42 (by omega)) (fun k hk => kk k (by omega)), hT.keep (by rw [lo 1 (by omega)]) (lo 2 (by omega)) (k62 2 (by omega)) (kk 63 (by omega)), hSc.keep (by rw [lo 0 (by omega)]) (k62 12 (by omega)) (fun k _ _ => lo k (by omega)) (fun _ _ => by rw [kk 68 (by omega)]) (fun _ _ => by rw [kk 69 (by omega)]), S, m, nx, hR.keep hC (by rw [lo 0 (by omega)]) (fun k _ => lo k (by omega)) (fun j _ => k62 j (by omega)) (fun k _ => kk k (by omega))⟩
theorem all_table {C : Nat} {I : gM} (h : InvA C I) (hC : C ≤ 3) (v1 v2 : Int32) : ∃ y b, fT8 v1 v2 I = some y ∧ fX9_table v1 v2 I = some b ∧ InvA C b.2 ∧ b.2 62 0 = jr y ∧ ∀ v, y = some v → b.1 = v := by
  obtain ⟨A, hW, hC8, hR⟩ := h.now
  have hn4 := hW.1
  have hM := h.1
  obtain ⟨b, eb, Mb⟩ := tfX9_table v1 v2 I hM.re
  have f := xfX9_table _ _ _ eb
  have hI : InvA C b.2 := h.ref hC Mb (fun j hj => f 62 j (Or.inr (by omega))) (fun k hk => funext fun j => f k j (Or.inl (by omega)))
  -- not told: it throws
  have out : fT8 v1 v2 I = some none → fX9_table v1 v2 I = bX9_table_22 v1 v2 I → ∃ y b, fT8 v1 v2 I = some y ∧ fX9_table v1 v2 I = some b ∧ InvA C b.2 ∧ b.2 62 0 = jr y ∧ ∀ v, y = some v → b.1 = v := by
    intro q1 q2
    refine ⟨none, b, q1, eb, hI, ?_, fun v hv => by cases hv⟩
    rw [eb] at q2
    unfold bX9_table_22 bX9_table_23 at q2
    rw [pU_n, obs, g_up_self, if_pos rfl] at q2
    obtain rfl := Option.some.inj q2
    show g_up I 62 0 1 62 0 = 1
    exact g_up_self
  rcases c_isTable hn4 hC8.1 v1 with ⟨t, ht, rfl, e1⟩ | ⟨hno, e1⟩
  · have e2 : fX9_isTable (nI t) I = some 1 := by
      rcases n_isTable hn4 hR.1 (nI t) with ⟨_, _, _, z⟩ | ⟨z, _⟩
      · exact z
      · exact absurd rfl (z t ht)
    have t3 : (3 : Int32).toInt = ((4 : Nat) : Int) - 1 := by decide
    have eC : fT8 (nI t) v2 I = if v2 < 0 then some none else if v2 ≤ 3 then (if v2 = 0 then (rI 4 (I 4) (nI t)).bind fun u => some (some u) else if v2 = 1 then (fX5_lettersOf 3 (nI t) I).bind fun r => some (some r) else if v2 = 2 then (rI 4 (I 5) (nI t)).bind fun u => some (some u) else (fX5_isUsed 3 (nI t) I).bind fun r => if r = 0 then some (some 0) else some (some 1)) else some none := by
      unfold fT8
      rw [e1, obs, if_neg n10]
    have eR : fX9_table (nI t) v2 I = (fX9_in v2 0 3).bind fun r7 => if r7 = 0 then bX9_table_22 (nI t) v2 I else bX9_table_23 (nI t) v2 0 I := by
      unfold fX9_table
      rw [e2, obs, if_neg n10]
    rcases i_below v2 (n := 4) (by omega) with ⟨i, hi, rfl⟩ | ⟨c, z⟩ | ⟨c, d, z⟩
    · have hR' : RT (g_up I 62 0 0) (g_up I 62 0 0 70) A := by
        rw [g_up_row (by decide)]
        exact hR.cong (g_up_ne (Or.inr (by decide))) (g_up_row (by decide)) (g_up_row (by decide)) hn4 hW.k12 (fun _ _ => rfl)
      have e0 : g_up I 62 0 0 62 0 = 0 := g_up_self
      rw [in_yes hi (by omega) t3, obs, if_neg n10] at eR
      unfold bX9_table_23 at eR
      rw [pU_n, obs, e0, if_neg (show ¬ (0 : Int32) = 1 by decide)] at eR
      rw [L0, if_neg (mt (nI_ltI (by omega) (by omega)).mp (by omega)), if_pos (show nI i ≤ (3 : Int32) from (nI_leI (b := 3) (by omega) (by omega)).mpr (by omega))] at eC
      have fin : ∀ x : Int32, fT8 (nI t) (nI i) I = some (some x) → fX9_table (nI t) (nI i) I = some (x, g_up I 62 0 0) → ∃ y b, fT8 (nI t) (nI i) I = some y ∧ fX9_table (nI t) (nI i) I = some b ∧ InvA C b.2 ∧ b.2 62 0 = jr y ∧ ∀ v, y = some v → b.1 = v := by
        intro x q1 q2
        rw [eb] at q2
        obtain rfl := Option.some.inj q2
        exact ⟨some x, _, q1, eb, hI, e0, fun v hv => Option.some.inj hv⟩
      rcases (by omega : i = 0 ∨ i = 1 ∨ i = 2 ∨ i = 3) with rfl | rfl | rfl | rfl
      · rw [if_pos rfl, rI_n (by omega) (by omega), obs, show I 4 t = nI (aL A t).length from (hC8.2.2.2 t ht).1] at eC
        rw [if_pos (show nI 0 = 0 from rfl), rI_n (by omega) (by omega), obs, (hR'.2.2.2 t ht).1] at eR
        exact fin _ eC eR
      · rw [if_neg (show ¬ nI 1 = nI 0 by decide), if_pos (show nI 1 = 1 from rfl), c_lettersOf hW hC8 ht, obs] at eC
        rw [if_neg (show ¬ nI 1 = 0 by decide), if_pos (show nI 1 = 1 from rfl), n_lettersK hW hR' ht, obs] at eR
        exact fin _ eC eR
      · rw [if_neg (show ¬ nI 2 = nI 0 by decide), if_neg (show ¬ nI 2 = 1 by decide), if_pos (show nI 2 = 2 from rfl), rI_n (by omega) (by omega), obs, show I 5 t = nI (aK A t).length from (hC8.2.2.2 t ht).2.2.1] at eC
        rw [if_neg (show ¬ nI 2 = 0 by decide), if_neg (show ¬ nI 2 = 1 by decide), if_pos (show nI 2 = 2 from rfl), n_many (by omega), obs, (hR'.2.2.2 t ht).2.2.1] at eR
        exact fin _ eC eR
      · rw [if_neg (show ¬ nI 3 = nI 0 by decide), if_neg (show ¬ nI 3 = 1 by decide), if_neg (show ¬ nI 3 = 2 by decide), c_isUsed hW hC8 ht, obs] at eC
        rw [if_neg (show ¬ nI 3 = 0 by decide), if_neg (show ¬ nI 3 = 1 by decide), if_neg (show ¬ nI 3 = 2 by decide), n_usedK hW hR' (by omega), obs] at eR
        by_cases u : A.2.1.testBit t = true
        · rw [if_pos u, if_neg (show ¬ (1 : Int32) = nI 0 from n10)] at eC
          rw [if_pos u, if_neg n10] at eR
          exact fin _ eC eR
        · rw [if_neg u, if_pos (show (0 : Int32) = nI 0 from rfl)] at eC
          rw [if_neg u, if_pos rfl] at eR
          exact fin _ eC eR
    · rw [if_pos c] at eC
      rw [in_no t3 z, obs, if_pos rfl] at eR
      exact out eC eR
    · rw [if_neg c, if_neg (fun q => by
          have q1 := (iLE (a := v2) (b := 3) rfl (by decide : (3 : Int32).toInt = 3)).mp q
          have q2 := (iLE (a := nI 4) (b := v2) (tnI (by omega)) rfl).mp d
          omega)] at eC
      rw [in_no t3 z, obs, if_pos rfl] at eR
      exact out eC eR
  · have e2 : fX9_isTable v1 I = some 0 := by
      rcases n_isTable hn4 hR.1 v1 with ⟨t, z1, z2, _⟩ | ⟨_, z⟩
      · exact absurd z2 (hno t z1)
      · exact z
    refine out ?_ ?_
    · unfold fT8
      rw [e1, obs, if_pos rfl]
    · unfold fX9_table
      rw [e2, obs, if_pos rfl]
end P_35r_40t_asked
section P_35r_40u_keep
/-! the other calls leave both states as they are -/
/-- the places that the common state speaks of, the tapes apart -/
def KP (q j : Nat) : Prop := (q = 0 ∧ (j = 14 ∨ j = 15)) ∨ (3 ≤ q ∧ q ≤ 7) ∨ (13 ≤ q ∧ q ≤ 17) ∨ (44 ≤ q ∧ q ≤ 49) ∨ (53 ≤ q ∧ q ≤ 61) ∨ (q = 62 ∧ (j = 12 ∨ j = 17 ∨ j = 29 ∨ j = 42)) ∨ (q = 68 ∧ j < 240) ∨ (q = 69 ∧ j < 4) ∨ (70 ≤ q ∧ q ≤ 73) ∨ q = 81 ∨ q = 89
theorem InvA.keepA {C : Nat} {I b : gM} (h : InvA C I) (hC : C ≤ 3) (h0 : Inv0 b) (f : ∀ q j, KP q j → b q j = I q j) : InvA C b := by
  obtain ⟨_, _, _, hSc, S, m, nx, hR⟩ := h
  obtain ⟨g1, g2, g3, _⟩ := h0
  have fk : ∀ q, (∀ j, KP q j) → b q = I q := fun q hq => funext fun j => f q j (hq j)
  have kp : ∀ q, (3 ≤ q ∧ q ≤ 7) ∨ (13 ≤ q ∧ q ≤ 17) ∨ (44 ≤ q ∧ q ≤ 49) ∨ (53 ≤ q ∧ q ≤ 61) ∨ (70 ≤ q ∧ q ≤ 73) ∨ q = 81 ∨ q = 89 → ∀ j, KP q j := fun q hq j => by unfold KP; omega
  have k0 : ∀ j, j = 14 ∨ j = 15 → b 0 j = I 0 j := fun j hj => f 0 j (by unfold KP; omega)
  have k62 : ∀ j, j = 12 ∨ j = 17 ∨ j = 29 ∨ j = 42 → b 62 j = I 62 j := fun j hj => f 62 j (by unfold KP; omega)
  exact ⟨g1, g2, g3, hSc.keep (k0 14 (by omega)) (k62 12 (by omega)) (fun k h1 h2 => fk k (kp k (by omega))) (fun a ha => f 68 a (by unfold KP; omega)) (fun s hs => f 69 s (by unfold KP; omega)), S, m, nx, hR.keep hC (k0 15 (by omega)) (fun k hk => fk k (kp k (by omega))) (fun j hj => k62 j (by omega)) (fun k hk => fk k (kp k (by omega)))⟩
theorem InvA.zero {C : Nat} {I : gM} (h : InvA C I) : Inv0 I := ⟨h.1, h.2.1, h.2.2.1, h.2.2.2.1.1⟩
theorem n_wouldK {I0 I : gM} (hM : MI false I0 I) (v1 v2 v3 v4 v5 : Int32) : T (fX9_would v1 v2 v3 v4 v5 I) (fun r => r.2 70 = I 70) := by
  obtain ⟨n, hn, en⟩ := hM.tn
  unfold fX9_would
  refine t_bindE (tfX9_whyPut v1 v2 v3 v4 I hM) (fun v ev pv => ?_)
  refine t_ite (fun c => ?_) (fun c => t_ret rfl)
  rcases n_in v5 0 1 with ⟨h1, h2, h3⟩ | ⟨h1, h3⟩
  · rw [h3, obs, if_neg (by decide)]
    rw [c] at ev
    obtain ⟨w', hw'⟩ := n_can hM hn en (s := 0) (a := v1) (x := v2) (y := v3) (z := v4) (by unfold fX9_whyNot; rw [if_pos rfl, ev, obs])
    obtain ⟨p, ep, p1, p2, p3⟩ := n_putAside hM
    obtain ⟨vv, g, eg, g1, g2, g3, _⟩ := n_doNow p1 hn (by rw [p3 62 (by omega)]; exact en) (s := 0) (a := v1) (x := v2) (y := v3) (z := v4) (w' := w') (by rw [p3 70 (by omega), p3 72 (by omega)]; exact hw')
    have eg2 : fX9_putsNow v1 v2 v3 v4 p = some (vv, g) := by
      unfold fX9_doNow at eg
      rw [if_pos rfl] at eg
      obtain ⟨r', e1, e2⟩ := ob eg
      rw [e1]; exact e2
    obtain ⟨q, eq, _, q1, _, q3, q4⟩ := n_rowsNow g1
    obtain ⟨b, eb, b1, b2, b3⟩ := n_bringBack q1
    refine t_be ep (t_be eg2 (t_be eq (t_be eb ?_)))
    have ok : b 70 = I 70 := by
      funext a
      rw [b2]
      by_cases c : a < 150
      · rw [if_pos c, q3 88 (by omega) (by omega) (by omega) (by omega) (by omega) (by omega) (by omega) (by omega), g2 88 (by omega)]; exact p2 a c
      · rw [if_neg c, q3 70 (by omega) (by omega) (by omega) (by omega) (by omega) (by omega) (by omega) (by omega), g3, hw'.hi hn a (by omega)]
    exact t_ite (fun c3 => t_ret ok) (fun c3 => t_ret ok)
  · rw [h3, obs, if_pos rfl]; exact t_ret rfl
theorem n_runK {I0 I : gM} (hM : MI false I0 I) (v1 v2 : Int32) : T (fX9_run v1 v2 I) (fun r => r.2 70 = I 70 ∧ r.2 81 = I 81 ∧ r.2 62 29 = I 62 29) := by
  obtain ⟨n, hn, en⟩ := hM.tn
  obtain ⟨m, hm, em⟩ := hM.n (k := 62) (j := 12) (hi := 4) rfl
  unfold fX9_run
  have rf : I 70 = I 70 ∧ I 81 = I 81 ∧ I 62 29 = I 62 29 := ⟨rfl, rfl, rfl⟩
  rcases n_isScript hm em v1 with ⟨t, t1, rfl, e⟩ | ⟨t1, e⟩
  · rw [e, obs, if_neg (by decide), n_areTables hn en, obs]
    by_cases c : n = 0
    · rw [if_pos c, if_pos rfl]; exact t_ret rf
    · rw [if_neg c, if_neg (by decide)]
      rcases n_in v2 0 1 with ⟨h1, h2, h3⟩ | ⟨h1, h3⟩
      · rw [h3, obs, if_neg (by decide)]
        obtain ⟨p, ep, p1, p2, p3⟩ := n_putAside hM
        refine t_be ep (t_bind (n_goSteps0 p1 (by omega)) (fun g pg => ?_))
        obtain ⟨g1, g2, g3⟩ := pg
        obtain ⟨q, _, eq, q1, _, q3, q4⟩ := n_rowsNow g1
        refine t_be eq ?_
        obtain ⟨b, eb, b1, b2, b3⟩ := n_bringBack q1
        refine t_be eb ?_
        have ok : b 70 = I 70 ∧ b 81 = I 81 ∧ b 62 29 = I 62 29 := by
          refine ⟨?_, ?_, ?_⟩
          · funext a
            rw [b2]
            by_cases c : a < 150
            · rw [if_pos c, q3 88 (by omega) (by omega) (by omega) (by omega) (by omega) (by omega) (by omega) (by omega), g2 88 (by omega)]; exact p2 a c
            · rw [if_neg c, q3 70 (by omega) (by omega) (by omega) (by omega) (by omega) (by omega) (by omega) (by omega), g3 a (by omega), p3 70 (by omega)]
          · rw [b3 81 (by omega), q3 81 (by omega) (by omega) (by omega) (by omega) (by omega) (by omega) (by omega) (by omega), g2 81 (by omega), p3 81 (by omega)]
          · rw [b3 62 (by omega), q4 29 (by omega) (by omega) (by omega), g2 62 (by omega), p3 62 (by omega)]
        refine t_ite (fun c2 => t_ret ok) (fun c2 => ?_)
        refine t_be (rI_n (by omega) (by omega)) ?_
        exact t_ite (fun c3 => t_ret ok) (fun c3 => t_ret ok)
      · rw [h3, obs, if_pos rfl]; exact t_ret rf
  · rw [e, obs, if_pos rfl]; exact t_ret rf
theorem n_fault68 {I : gM} {v : Int32} {r : Int32 × gM} (h : fX9_fault v I = some r) : (∀ a, a < 240 → r.2 68 a = I 68 a) ∧ ∀ a, a < 4 → r.2 69 a = I 69 a := by
  unfold fX9_fault at h
  rcases oi h with ⟨_, h⟩ | ⟨_, h⟩
  · obtain ⟨r1, e1, h⟩ := ob h
    obtain rfl := Option.some.inj h
    have f := xfX9_readAll _ e1
    exact ⟨fun a _ => f 68 a (Or.inl (by decide)) (Or.inl (by decide)) (Or.inl (by decide)) (by decide) (by decide) (by decide) (by decide), fun a _ => f 69 a (Or.inl (by decide)) (Or.inl (by decide)) (Or.inl (by decide)) (by decide) (by decide) (by decide) (by decide)⟩
  · rcases oi h with ⟨_, h⟩ | ⟨_, h⟩
    · obtain ⟨r1, e1, h⟩ := ob h
      obtain rfl := Option.some.inj h
      have f := lo_readScript (s := 4) (by omega) e1
      exact ⟨fun a ha => f.1 a (by omega), fun a ha => f.2 a (by omega)⟩
    · obtain rfl := Option.some.inj h
      exact ⟨fun _ _ => rfl, fun _ _ => rfl⟩
theorem all_feed {C : Nat} {I : gM} (h : InvA C I) (hC : C ≤ 3) (v1 v2 v3 v4 v5 : Int32) : ∃ a b, fX8_feed v1 v2 v3 v4 v5 I = some a ∧ fX9_feed v1 v2 v3 v4 v5 a.2 = some b ∧ InvA C b.2 ∧ a.1 = b.1 := by
  obtain ⟨a, b, e1, e2, h0, e⟩ := both_feed h.zero v1 v2 v3 v4 v5
  obtain ⟨v, A, B, f1, f2, _, k1, k2, k3⟩ := feed_both v1 v2 v3 v4 v5 h.2.2.1
  rw [f1] at e1
  obtain rfl := Option.some.inj e1
  rw [f2] at e2
  obtain rfl := Option.some.inj e2
  refine ⟨_, _, f1, f2, h.keepA hC h0 (fun q j hk => ?_), rfl⟩
  unfold KP at hk
  by_cases c : q = 62
  · subst c; exact k3 j (by omega)
  · exact congrFun (k1 q (by omega) (by omega) c (by omega)) j
theorem all_end {C : Nat} {I : gM} (h : InvA C I) (hC : C ≤ 3) (v : Int32) : ∃ a b, fX8_end v I = some a ∧ fX9_end v a.2 = some b ∧ InvA C b.2 ∧ a.1 = b.1 := by
  obtain ⟨a, b, e1, e2, h0, e⟩ := both_end h.zero v
  have f8 := xfX8_end _ _ e1
  have f9 := xfX9_end _ _ e2
  refine ⟨a, b, e1, e2, h.keepA hC h0 (fun q j hk => ?_), e⟩
  unfold KP at hk
  exact (f9 q j (by omega)).trans (f8 q j (by omega))
theorem all_fault {C : Nat} {I : gM} (h : InvA C I) (hC : C ≤ 3) (v1 : Int32) : ∃ a b, fX8_fault v1 I = some a ∧ fX9_fault v1 a.2 = some b ∧ InvA C b.2 := by
  obtain ⟨a, b, e1, e2, h0⟩ := both_fault h.zero v1
  have b68 := n_fault68 e2
  have f8 := xfX8_fault _ _ e1
  have f9 := xfX9_fault _ _ e2
  refine ⟨a, b, e1, e2, h.keepA hC h0 (fun q j hk => ?_)⟩
  unfold KP at hk
  by_cases c68 : q = 68
  · subst c68
    rw [b68.1 j (by omega)]
    exact f8 68 j (by omega) (by omega) (by omega) (by omega) (by omega) (by omega) (by omega) (by omega) (by omega) (by omega)
  by_cases c69 : q = 69
  · subst c69
    rw [b68.2 j (by omega)]
    exact f8 69 j (by omega) (by omega) (by omega) (by omega) (by omega) (by omega) (by omega) (by omega) (by omega) (by omega)
  exact (f9 q j (by omega) (by omega) (by omega) (by omega) (by omega) (by omega) (by omega) (by omega) (by omega)).trans (f8 q j (by omega) (by omega) (by omega) (by omega) (by omega) (by omega) (by omega) (by omega) (by omega) (by omega))
theorem all_rows {C : Nat} {I : gM} (h : InvA C I) (hC : C ≤ 3) : ∃ a b, fX8_rows I = some a ∧ fX9_rows I = some b ∧ InvA C b.2 := by
  obtain ⟨a, b, e1, e2, h0⟩ := both_rows h.zero 
  have f9 := xfX9_rows _ e2
  refine ⟨a, b, e1, e2, h.keepA hC h0 (fun q j hk => ?_)⟩
  unfold KP at hk
  exact f9 q j (by omega) (by omega) (by omega) (by omega) (by omega) (by omega) (by omega) (by omega) (by omega) (by omega)
theorem all_row {C : Nat} {I : gM} (h : InvA C I) (hC : C ≤ 3) (v1 : Int32) (v2 : Int32) : ∃ a b, fX8_row v1 v2 I = some a ∧ fX9_row v1 v2 I = some b ∧ InvA C b.2 := by
  obtain ⟨a, b, e1, e2, h0⟩ := both_row h.zero v1 v2
  have f9 := xfX9_row _ _ _ e2
  refine ⟨a, b, e1, e2, h.keepA hC h0 (fun q j hk => ?_)⟩
  unfold KP at hk
  exact f9 q j (by omega) (by omega) (by omega) (by omega) (by omega) (by omega) (by omega) (by omega) (by omega) (by omega)
theorem all_leaps {C : Nat} {I : gM} (h : InvA C I) (hC : C ≤ 3) : ∃ a b, fX8_leaps I = some a ∧ fX9_leaps_ I = some b ∧ InvA C b.2 := by
  obtain ⟨a, b, e1, e2, h0⟩ := both_leaps h.zero 
  have f9 := xfX9_leaps_ _ e2
  refine ⟨a, b, e1, e2, h.keepA hC h0 (fun q j hk => ?_)⟩
  unfold KP at hk
  exact f9 q j (by omega) (by omega) (by omega) (by omega) (by omega) (by omega) (by omega) (by omega) (by omega) (by omega)
theorem all_beginnings {C : Nat} {I : gM} (h : InvA C I) (hC : C ≤ 3) (v1 : Int32) : ∃ a b, fX8_beginnings v1 I = some a ∧ fX9_beginnings v1 I = some b ∧ InvA C b.2 := by
  obtain ⟨a, b, e1, e2, h0⟩ := both_beginnings h.zero v1
  have f9 := xfX9_beginnings _ _ e2
  refine ⟨a, b, e1, e2, h.keepA hC h0 (fun q j hk => ?_)⟩
  unfold KP at hk
  exact f9 q j (by omega) (by omega) (by omega) (by omega) (by omega) (by omega) (by omega) (by omega) (by omega) (by omega)
theorem all_best {C : Nat} {I : gM} (h : InvA C I) (hC : C ≤ 3) (v1 : Int32) : ∃ a b, fX8_best v1 I = some a ∧ fX9_best v1 a.2 = some b ∧ InvA C b.2 := by
  obtain ⟨a, b, e1, e2, h0⟩ := both_best h.zero v1
  have f8 := xfX8_best _ _ e1
  have f9 := xfX9_best _ _ e2
  refine ⟨a, b, e1, e2, h.keepA hC h0 (fun q j hk => ?_)⟩
  unfold KP at hk
  exact (f9 q j (by omega) (by omega) (by omega) (by omega) (by omega) (by omega) (by omega) (by omega) (by omega) (by omega) (by omega) (by omega) (by omega)).trans (f8 q j (by omega) (by omega) (by omega) (by omega) (by omega) (by omega) (by omega) (by omega) (by omega) (by omega) (by omega) (by omega) (by omega) (by omega) (by omega) (by omega) (by omega))
theorem all_given {C : Nat} {I : gM} (h : InvA C I) (hC : C ≤ 3) (v1 : Int32) : ∃ a b, fX8_given v1 I = some a ∧ fX9_given v1 I = some b ∧ InvA C b.2 := by
  obtain ⟨a, b, e1, e2, h0⟩ := both_given h.zero v1
  have f9 := xfX9_given _ _ e2
  refine ⟨a, b, e1, e2, h.keepA hC h0 (fun q j hk => ?_)⟩
  unfold KP at hk
  exact f9 q j (by omega) (by omega) (by omega) (by omega) (by omega) (by omega) (by omega) (by omega) (by omega) (by omega)
theorem all_without {C : Nat} {I : gM} (h : InvA C I) (hC : C ≤ 3) (v1 : Int32) : ∃ a b, fX8_without v1 I = some a ∧ fX9_without v1 a.2 = some b ∧ InvA C b.2 := by
  obtain ⟨a, b, e1, e2, h0⟩ := both_without h.zero v1
  have b70 := n_without70 e2
  have f8 := xfX8_without _ _ e1
  have f9 := xfX9_without _ _ e2
  refine ⟨a, b, e1, e2, h.keepA hC h0 (fun q j hk => ?_)⟩
  unfold KP at hk
  by_cases c70 : q = 70
  · subst c70
    rw [b70]
    exact f8 70 j (by omega) (by omega) (by omega) (by omega) (by omega) (by omega) (by omega) (by omega) (by omega) (by omega) (by omega) (by omega) (by omega) (by omega) (by omega) (by omega) (by omega) (by omega) (by omega) (by omega)
  exact (f9 q j (by omega) (by omega) (by omega) (by omega) (by omega) (by omega) (by omega) (by omega) (by omega) (by omega) (by omega)).trans (f8 q j (by omega) (by omega) (by omega) (by omega) (by omega) (by omega) (by omega) (by omega) (by omega) (by omega) (by omega) (by omega) (by omega) (by omega) (by omega) (by omega) (by omega) (by omega) (by omega) (by omega))
theorem all_projected {C : Nat} {I : gM} (h : InvA C I) (hC : C ≤ 3) (v1 : Int32) : ∃ a b, fX8_projected v1 I = some a ∧ fX9_projected v1 a.2 = some b ∧ InvA C b.2 := by
  obtain ⟨a, b, e1, e2, h0⟩ := both_projected h.zero v1
  have f8 := xfX8_projected _ _ e1
  have f9 := xfX9_projected _ _ e2
  refine ⟨a, b, e1, e2, h.keepA hC h0 (fun q j hk => ?_)⟩
  unfold KP at hk
  exact (f9 q j (by omega) (by omega) (by omega) (by omega) (by omega) (by omega) (by omega) (by omega) (by omega) (by omega) (by omega) (by omega) (by omega) (by omega)).trans (f8 q j (by omega) (by omega) (by omega) (by omega) (by omega) (by omega) (by omega) (by omega) (by omega) (by omega) (by omega) (by omega) (by omega))
theorem all_times {C : Nat} {I : gM} (h : InvA C I) (hC : C ≤ 3) (v1 : Int32) (v2 : Int32) : ∃ a b, fX8_times v1 v2 I = some a ∧ fX9_times v1 v2 a.2 = some b ∧ InvA C b.2 := by
  obtain ⟨a, b, e1, e2, h0⟩ := both_times h.zero v1 v2
  have f8 := xfX8_times _ _ _ e1
  have f9 := xfX9_times _ _ _ e2
  refine ⟨a, b, e1, e2, h.keepA hC h0 (fun q j hk => ?_)⟩
  unfold KP at hk
  exact (f9 q j (by omega) (by omega) (by omega) (by omega) (by omega) (by omega) (by omega) (by omega) (by omega) (by omega) (by omega) (by omega) (by omega)).trans (f8 q j (by omega))
theorem all_distinct {C : Nat} {I : gM} (h : InvA C I) (hC : C ≤ 3) (v1 : Int32) (v2 : Int32) : ∃ a b, fX8_distinct v1 v2 I = some a ∧ fX9_distinct v1 v2 a.2 = some b ∧ InvA C b.2 := by
  obtain ⟨a, b, e1, e2, h0⟩ := both_distinct h.zero v1 v2
  have f8 := xfX8_distinct _ _ _ e1
  have f9 := xfX9_distinct _ _ _ e2
  refine ⟨a, b, e1, e2, h.keepA hC h0 (fun q j hk => ?_)⟩
  unfold KP at hk
  exact (f9 q j (by omega) (by omega) (by omega) (by omega) (by omega) (by omega) (by omega) (by omega) (by omega) (by omega) (by omega) (by omega) (by omega)).trans (f8 q j (by omega))
theorem all_tells {C : Nat} {I : gM} (h : InvA C I) (hC : C ≤ 3) (v1 : Int32) (v2 : Int32) : ∃ a b, fX8_tells v1 v2 I = some a ∧ fX9_tells v1 v2 a.2 = some b ∧ InvA C b.2 := by
  obtain ⟨a, b, e1, e2, h0⟩ := both_tells h.zero v1 v2
  have f8 := xfX8_tells _ _ _ e1
  have f9 := xfX9_tells _ _ _ e2
  refine ⟨a, b, e1, e2, h.keepA hC h0 (fun q j hk => ?_)⟩
  unfold KP at hk
  exact (f9 q j (by omega) (by omega) (by omega) (by omega) (by omega) (by omega) (by omega) (by omega) (by omega) (by omega) (by omega)).trans (f8 q j (by omega))
theorem all_behind {C : Nat} {I : gM} (h : InvA C I) (hC : C ≤ 3) (v1 : Int32) (v2 : Int32) (v3 : Int32) (v4 : Int32) : ∃ a b, fX8_behind v1 v2 v3 v4 I = some a ∧ fX9_behind v1 v2 v3 v4 I = some b ∧ InvA C b.2 := by
  obtain ⟨a, b, e1, e2, h0⟩ := both_behind h.zero v1 v2 v3 v4
  have f9 := xfX9_behind _ _ _ _ _ e2
  refine ⟨a, b, e1, e2, h.keepA hC h0 (fun q j hk => ?_)⟩
  unfold KP at hk
  exact f9 q j (by omega) (by omega) (by omega) (by omega) (by omega) (by omega) (by omega) (by omega) (by omega) (by omega) (by omega)
theorem all_has {C : Nat} {I : gM} (h : InvA C I) (hC : C ≤ 3) (v1 : Int32) (v2 : Int32) (v3 : Int32) (v4 : Int32) : ∃ a b, fX8_has v1 v2 v3 v4 I = some a ∧ fX9_has_ v1 v2 v3 v4 I = some b ∧ InvA C b.2 := by
  obtain ⟨a, b, e1, e2, h0⟩ := both_has h.zero v1 v2 v3 v4
  have f9 := xfX9_has_ _ _ _ _ _ e2
  refine ⟨a, b, e1, e2, h.keepA hC h0 (fun q j hk => ?_)⟩
  unfold KP at hk
  exact f9 q j (by omega) (by omega) (by omega) (by omega) (by omega) (by omega) (by omega) (by omega) (by omega) (by omega) (by omega)
theorem all_mean {C : Nat} {I : gM} (h : InvA C I) (hC : C ≤ 3) (v1 : Int32) : ∃ a b, fX8_mean v1 I = some a ∧ fX9_mean v1 I = some b ∧ InvA C b.2 := by
  obtain ⟨a, b, e1, e2, h0⟩ := both_mean h.zero v1
  have f9 := xfX9_mean _ _ e2
  refine ⟨a, b, e1, e2, h.keepA hC h0 (fun q j hk => ?_)⟩
  unfold KP at hk
  exact f9 q j (by omega) (by omega) (by omega) (by omega) (by omega) (by omega) (by omega) (by omega) (by omega) (by omega)
theorem all_meanAs {C : Nat} {I : gM} (h : InvA C I) (hC : C ≤ 3) (v1 : Int32) (v2 : Int32) : ∃ a b, fX8_meanAs v1 v2 I = some a ∧ fX9_meanAs v1 v2 I = some b ∧ InvA C b.2 := by
  obtain ⟨a, b, e1, e2, h0⟩ := both_meanAs h.zero v1 v2
  have f9 := xfX9_meanAs _ _ _ e2
  refine ⟨a, b, e1, e2, h.keepA hC h0 (fun q j hk => ?_)⟩
  unfold KP at hk
  exact f9 q j (by omega) (by omega) (by omega) (by omega) (by omega) (by omega) (by omega) (by omega) (by omega) (by omega)
theorem all_spread {C : Nat} {I : gM} (h : InvA C I) (hC : C ≤ 3) (v1 : Int32) : ∃ a b, fX8_spread v1 I = some a ∧ fX9_spread v1 I = some b ∧ InvA C b.2 := by
  obtain ⟨a, b, e1, e2, h0⟩ := both_spread h.zero v1
  have f9 := xfX9_spread _ _ e2
  refine ⟨a, b, e1, e2, h.keepA hC h0 (fun q j hk => ?_)⟩
  unfold KP at hk
  exact f9 q j (by omega) (by omega) (by omega) (by omega) (by omega) (by omega) (by omega) (by omega) (by omega) (by omega)
theorem all_skew {C : Nat} {I : gM} (h : InvA C I) (hC : C ≤ 3) (v1 : Int32) : ∃ a b, fX8_skew v1 I = some a ∧ fX9_skew v1 a.2 = some b ∧ InvA C b.2 := by
  obtain ⟨a, b, e1, e2, h0⟩ := both_skew h.zero v1
  obtain ⟨a', e1', _, hk8⟩ := t_skew8 v1 I h.1
  rw [e1] at e1'
  obtain rfl := Option.some.inj e1'
  have f9 := xfX9_skew _ _ e2
  refine ⟨a, b, e1, e2, h.keepA hC h0 (fun q j hk => ?_)⟩
  unfold KP at hk
  exact (f9 q j (by omega) (by omega) (by omega) (by omega) (by omega) (by omega) (by omega) (by omega) (by omega) (by omega) (by omega) (by omega) (by omega)).trans (congrFun (hk8 q (by omega)) j)
theorem all_log {C : Nat} {I : gM} (h : InvA C I) (hC : C ≤ 3) (v1 : Int32) (v2 : Int32) : ∃ a b, fX8_log v1 v2 I = some a ∧ fX9_log v1 v2 I = some b ∧ InvA C I := by
  obtain ⟨a, b, e1, e2, _⟩ := both_log h.zero v1 v2
  exact ⟨a, b, e1, e2, h⟩
theorem all_would {C : Nat} {I : gM} (h : InvA C I) (hC : C ≤ 3) (v1 : Int32) (v2 : Int32) (v3 : Int32) (v4 : Int32) (v5 : Int32) : ∃ a b, fX8_would v1 v2 v3 v4 v5 I = some a ∧ fX9_would v1 v2 v3 v4 v5 a.2 = some b ∧ InvA C b.2 := by
  obtain ⟨a, b, e1, e2, h0⟩ := both_would h.zero v1 v2 v3 v4 v5
  obtain ⟨a', e1', hMa⟩ := tfX8_would v1 v2 v3 v4 v5 I h.1
  rw [e1] at e1'
  obtain rfl := Option.some.inj e1'
  obtain ⟨b', e2', b70⟩ := n_wouldK (I0 := a.2) hMa.re v1 v2 v3 v4 v5
  rw [e2] at e2'
  obtain rfl := Option.some.inj e2'
  have f8 := xfX8_would _ _ _ _ _ _ e1
  have f9 := xfX9_would _ _ _ _ _ _ e2
  refine ⟨a, b, e1, e2, h.keepA hC h0 (fun q j hk => ?_)⟩
  unfold KP at hk
  by_cases c70 : q = 70
  · subst c70
    rw [b70]
    exact f8 70 j (by omega) (by omega) (by omega) (by omega) (by omega) (by omega) (by omega) (by omega) (by omega) (by omega) (by omega) (by omega) (by omega) (by omega) (by omega) (by omega) (by omega) (by omega) (by omega) (by omega)
  exact (f9 q j (by omega) (by omega) (by omega) (by omega) (by omega) (by omega) (by omega) (by omega) (by omega) (by omega) (by omega) (by omega)).trans (f8 q j (by omega) (by omega) (by omega) (by omega) (by omega) (by omega) (by omega) (by omega) (by omega) (by omega) (by omega) (by omega) (by omega) (by omega) (by omega) (by omega) (by omega) (by omega) (by omega) (by omega))
theorem all_run {C : Nat} {I : gM} (h : InvA C I) (hC : C ≤ 3) (v1 : Int32) (v2 : Int32) : ∃ a b, fX8_run v1 v2 I = some a ∧ fX9_run v1 v2 a.2 = some b ∧ InvA C b.2 := by
  obtain ⟨a, b, e1, e2, h0⟩ := both_run h.zero v1 v2
  obtain ⟨a', e1', hMa⟩ := tfX8_run v1 v2 I h.1
  rw [e1] at e1'
  obtain rfl := Option.some.inj e1'
  obtain ⟨b', e2', b70, b81, b29⟩ := n_runK (I0 := a.2) hMa.re v1 v2
  rw [e2] at e2'
  obtain rfl := Option.some.inj e2'
  have f8 := xfX8_run _ _ _ e1
  have f9 := xfX9_run _ _ _ e2
  refine ⟨a, b, e1, e2, h.keepA hC h0 (fun q j hk => ?_)⟩
  unfold KP at hk
  by_cases c70 : q = 70
  · subst c70
    rw [b70]
    exact f8 70 j (by omega) (by omega) (by omega) (by omega) (by omega) (by omega) (by omega) (by omega) (by omega) (by omega) (by omega) (by omega) (by omega) (by omega) (by omega) (by omega) (by omega) (by omega) (by omega) (by omega)
  by_cases c81 : q = 81
  · subst c81
    rw [b81]
    exact f8 81 j (by omega) (by omega) (by omega) (by omega) (by omega) (by omega) (by omega) (by omega) (by omega) (by omega) (by omega) (by omega) (by omega) (by omega) (by omega) (by omega) (by omega) (by omega) (by omega) (by omega)
  by_cases c29 : q = 62 ∧ j = 29
  · rw [c29.1, c29.2, b29]
    exact f8 62 29 (by omega) (by omega) (by omega) (by omega) (by omega) (by omega) (by omega) (by omega) (by omega) (by omega) (by omega) (by omega) (by omega) (by omega) (by omega) (by omega) (by omega) (by omega) (by omega) (by omega)
  exact (f9 q j (by omega) (by omega) (by omega) (by omega) (by omega) (by omega) (by omega) (by omega) (by omega) (by omega) (by omega) (by omega) (by omega) (by omega)).trans (f8 q j (by omega) (by omega) (by omega) (by omega) (by omega) (by omega) (by omega) (by omega) (by omega) (by omega) (by omega) (by omega) (by omega) (by omega) (by omega) (by omega) (by omega) (by omega) (by omega) (by omega))
theorem all_most {C : Nat} {I : gM} (h : InvA C I) (hC : C ≤ 3) (v1 : Int32) : ∃ a b, fX8_most v1 I = some a ∧ fX9_most v1 a.2 = some b ∧ InvA C b.2 := by
  obtain ⟨a, b, e1, e2, h0⟩ := both_most h.zero v1
  have f8 := xfX8_most _ _ e1
  have f9 := xfX9_most _ _ e2
  refine ⟨a, b, e1, e2, h.keepA hC h0 (fun q j hk => ?_)⟩
  unfold KP at hk
  exact (f9 q j (by omega) (by omega) (by omega) (by omega) (by omega) (by omega) (by omega) (by omega) (by omega) (by omega) (by omega) (by omega) (by omega) (by omega)).trans (f8 q j (by omega) (by omega) (by omega) (by omega) (by omega) (by omega) (by omega) (by omega) (by omega) (by omega) (by omega) (by omega) (by omega) (by omega) (by omega) (by omega) (by omega) (by omega))
end P_35r_40u_keep
section P_35r_41_two
/-! the calls over the common state, the log's rows apart -/
def InvA2 (I : gM) : Prop := InvA 2 I
theorem invA_g0 (C : Nat) : InvA C g0 := by
  have z : ∀ {P : Prop} {a : Nat}, a < 0 → P := fun h => absurd h (Nat.not_lt_zero _)
  have hW : WF (([], 0, 0) : aT) := ⟨by decide, by decide, fun h => z h, by decide, fun t ht => z ht⟩
  refine ⟨mi_g0, a9_g0, ⟨0, by decide, rfl, rfl, fun j hj => z hj⟩, ⟨rfl, fun s _ hs => z hs⟩, fun _ => ([], 0, 0), 0, 0, ⟨by decide, by decide, rfl, rfl, rfl⟩, fun _ _ => hW, ⟨⟨rfl, rfl, rfl, fun t ht => z ht⟩, ⟨rfl, rfl, rfl, fun t ht => z ht⟩, 0, 0, by decide, by decide, by decide, rfl, rfl, rfl, fun i hi => z (show i < 0 from hi)⟩, fun a ha => z ha, ⟨rfl, fun h => absurd rfl h⟩, fun _ _ => rfl⟩
theorem invA2_g0 : InvA2 g0 := invA_g0 2
theorem al2_put {I : gM} (h : InvA2 I) (v1 v2 v3 v4 : Int32) : ∃ a b, fX8_put v1 v2 v3 v4 I = some a ∧ fX9_put v1 v2 v3 v4 a.2 = some b ∧ InvA2 b.2 ∧ a.1 = b.1 := all_put h (by omega) (fun q => absurd q (by omega)) v1 v2 v3 v4
theorem al2_take {I : gM} (h : InvA2 I) (v1 v2 v3 v4 : Int32) : ∃ a b, fX8_take v1 v2 v3 v4 I = some a ∧ fX9_take v1 v2 v3 v4 a.2 = some b ∧ InvA2 b.2 ∧ a.1 = b.1 := all_take h (by omega) (fun q => absurd q (by omega)) v1 v2 v3 v4
theorem al2_use {I : gM} (h : InvA2 I) (v1 : Int32) : ∃ a b, fX8_use v1 I = some a ∧ fX9_use v1 a.2 = some b ∧ InvA2 b.2 ∧ a.1 = b.1 := all_use h (by omega) (fun q => absurd q (by omega)) v1
theorem al2_order {I : gM} (h : InvA2 I) (v1 : Int32) : ∃ a b, fX8_order v1 I = some a ∧ fX9_order v1 a.2 = some b ∧ InvA2 b.2 ∧ a.1 = b.1 := all_order h (by omega) (fun q => absurd q (by omega)) v1
theorem al2_undo {I : gM} (h : InvA2 I) : ∃ a b, fX8_undo I = some a ∧ fX9_undo a.2 = some b ∧ InvA2 b.2 ∧ a.1 = b.1 := all_undo h (by omega) 
theorem al2_image {I : gM} (h : InvA2 I) : ∃ a b, fX8_image I = some a ∧ fX9_image a.2 = some b ∧ InvA2 b.2 := all_image h (by omega) 
theorem al2_back {I : gM} (h : InvA2 I) : ∃ a b, fX8_back I = some a ∧ fX9_back a.2 = some b ∧ InvA2 b.2 := all_back h (by omega) 
theorem al2_text {I : gM} (h : InvA2 I) (v : Int32) : ∃ a b, fX8_text v I = some a ∧ fX9_text v a.2 = some b ∧ InvA2 b.2 ∧ a.1 = b.1 := all_text h (by omega) v
theorem al2_perform {I : gM} (h : InvA2 I) (v : Int32) : ∃ a b, fX8_perform v I = some a ∧ fX9_perform v a.2 = some b ∧ InvA2 b.2 ∧ a.1 = b.1 := all_perform h (by omega) (fun q => absurd q (by omega)) v
theorem al2_ways {I : gM} (h : InvA2 I) (v1 : Int32) (v2 : Int64) (J : gN) : ∃ a b, fX8_ways v1 v2 I J = some a ∧ fX9_ways v1 v2 a.2.1 a.2.2 = some b ∧ InvA2 b.2.1 := all_ways h (by omega) (fun q => absurd q (by omega)) v1 v2 J
theorem al2_rule {I : gM} (h : InvA2 I) (v : Int32) : ∃ a b, fX8_rule v I = some a ∧ fX9_rule v I = some b ∧ InvA2 I ∧ a = b := all_rule h v
theorem al2_plain {I : gM} (h : InvA2 I) : ∃ a b, fX8_plain I = some a ∧ fX9_plain I = some b ∧ InvA2 I ∧ a = b := all_plain h 
theorem al2_status {I : gM} (h : InvA2 I) (v : Int32) : ∃ a b, fX8_status v I = some a ∧ fX9_status v I = some b ∧ InvA2 I ∧ a = b := all_status h v
theorem al2_count {I : gM} (h : InvA2 I) (v : Int32) : ∃ a b, fX8_count v I = some a ∧ fX9_count v I = some b ∧ InvA2 I ∧ a = b := all_count h v
theorem al2_cell {I : gM} (h : InvA2 I) (v1 v2 v3 : Int32) : ∃ a b, fX8_cell v1 v2 v3 I = some a ∧ fX9_cell v1 v2 v3 I = some b ∧ InvA2 I ∧ a = b := all_cell h v1 v2 v3
theorem al2_step {I : gM} (h : InvA2 I) (v1 v2 v3 : Int32) : ∃ a b, fX8_step v1 v2 v3 I = some a ∧ fX9_step v1 v2 v3 I = some b ∧ InvA2 I ∧ a = b := all_step h v1 v2 v3
theorem al2_tableE {I : gM} (h : InvA2 I) (v1 v2 : Int32) : ∃ y b, fT8 v1 v2 I = some y ∧ fX9_table v1 v2 I = some b ∧ InvA2 b.2 ∧ b.2 62 0 = jr y ∧ ∀ v, y = some v → b.1 = v := all_table h (by omega) v1 v2
theorem al2_table {I : gM} (h : InvA2 I) (v1 v2 : Int32) : ∃ y b, fT8 v1 v2 I = some y ∧ fX9_table v1 v2 I = some b ∧ InvA2 b.2 := by
  obtain ⟨y, b, e1, e2, h2, _⟩ := al2_tableE h v1 v2
  exact ⟨y, b, e1, e2, h2⟩
theorem al2_feed {I : gM} (h : InvA2 I) (v1 v2 v3 v4 v5 : Int32) : ∃ a b, fX8_feed v1 v2 v3 v4 v5 I = some a ∧ fX9_feed v1 v2 v3 v4 v5 a.2 = some b ∧ InvA2 b.2 ∧ a.1 = b.1 := all_feed h (by omega) v1 v2 v3 v4 v5
theorem al2_end {I : gM} (h : InvA2 I) (v : Int32) : ∃ a b, fX8_end v I = some a ∧ fX9_end v a.2 = some b ∧ InvA2 b.2 ∧ a.1 = b.1 := all_end h (by omega) v
theorem al2_fault {I : gM} (h : InvA2 I) (v1 : Int32) : ∃ a b, fX8_fault v1 I = some a ∧ fX9_fault v1 a.2 = some b ∧ InvA2 b.2 := all_fault h (by omega) v1
theorem al2_rows {I : gM} (h : InvA2 I) : ∃ a b, fX8_rows I = some a ∧ fX9_rows I = some b ∧ InvA2 b.2 := all_rows h (by omega) 
theorem al2_row {I : gM} (h : InvA2 I) (v1 : Int32) (v2 : Int32) : ∃ a b, fX8_row v1 v2 I = some a ∧ fX9_row v1 v2 I = some b ∧ InvA2 b.2 := all_row h (by omega) v1 v2
theorem al2_leaps {I : gM} (h : InvA2 I) : ∃ a b, fX8_leaps I = some a ∧ fX9_leaps_ I = some b ∧ InvA2 b.2 := all_leaps h (by omega) 
theorem al2_beginnings {I : gM} (h : InvA2 I) (v1 : Int32) : ∃ a b, fX8_beginnings v1 I = some a ∧ fX9_beginnings v1 I = some b ∧ InvA2 b.2 := all_beginnings h (by omega) v1
theorem al2_best {I : gM} (h : InvA2 I) (v1 : Int32) : ∃ a b, fX8_best v1 I = some a ∧ fX9_best v1 a.2 = some b ∧ InvA2 b.2 := all_best h (by omega) v1
theorem al2_given {I : gM} (h : InvA2 I) (v1 : Int32) : ∃ a b, fX8_given v1 I = some a ∧ fX9_given v1 I = some b ∧ InvA2 b.2 := all_given h (by omega) v1
theorem al2_without {I : gM} (h : InvA2 I) (v1 : Int32) : ∃ a b, fX8_without v1 I = some a ∧ fX9_without v1 a.2 = some b ∧ InvA2 b.2 := all_without h (by omega) v1
theorem al2_projected {I : gM} (h : InvA2 I) (v1 : Int32) : ∃ a b, fX8_projected v1 I = some a ∧ fX9_projected v1 a.2 = some b ∧ InvA2 b.2 := all_projected h (by omega) v1
theorem al2_times {I : gM} (h : InvA2 I) (v1 : Int32) (v2 : Int32) : ∃ a b, fX8_times v1 v2 I = some a ∧ fX9_times v1 v2 a.2 = some b ∧ InvA2 b.2 := all_times h (by omega) v1 v2
theorem al2_distinct {I : gM} (h : InvA2 I) (v1 : Int32) (v2 : Int32) : ∃ a b, fX8_distinct v1 v2 I = some a ∧ fX9_distinct v1 v2 a.2 = some b ∧ InvA2 b.2 := all_distinct h (by omega) v1 v2
theorem al2_tells {I : gM} (h : InvA2 I) (v1 : Int32) (v2 : Int32) : ∃ a b, fX8_tells v1 v2 I = some a ∧ fX9_tells v1 v2 a.2 = some b ∧ InvA2 b.2 := all_tells h (by omega) v1 v2
theorem al2_behind {I : gM} (h : InvA2 I) (v1 : Int32) (v2 : Int32) (v3 : Int32) (v4 : Int32) : ∃ a b, fX8_behind v1 v2 v3 v4 I = some a ∧ fX9_behind v1 v2 v3 v4 I = some b ∧ InvA2 b.2 := all_behind h (by omega) v1 v2 v3 v4
theorem al2_has {I : gM} (h : InvA2 I) (v1 : Int32) (v2 : Int32) (v3 : Int32) (v4 : Int32) : ∃ a b, fX8_has v1 v2 v3 v4 I = some a ∧ fX9_has_ v1 v2 v3 v4 I = some b ∧ InvA2 b.2 := all_has h (by omega) v1 v2 v3 v4
theorem al2_mean {I : gM} (h : InvA2 I) (v1 : Int32) : ∃ a b, fX8_mean v1 I = some a ∧ fX9_mean v1 I = some b ∧ InvA2 b.2 := all_mean h (by omega) v1
theorem al2_meanAs {I : gM} (h : InvA2 I) (v1 : Int32) (v2 : Int32) : ∃ a b, fX8_meanAs v1 v2 I = some a ∧ fX9_meanAs v1 v2 I = some b ∧ InvA2 b.2 := all_meanAs h (by omega) v1 v2
theorem al2_spread {I : gM} (h : InvA2 I) (v1 : Int32) : ∃ a b, fX8_spread v1 I = some a ∧ fX9_spread v1 I = some b ∧ InvA2 b.2 := all_spread h (by omega) v1
theorem al2_skew {I : gM} (h : InvA2 I) (v1 : Int32) : ∃ a b, fX8_skew v1 I = some a ∧ fX9_skew v1 a.2 = some b ∧ InvA2 b.2 := all_skew h (by omega) v1
theorem al2_log {I : gM} (h : InvA2 I) (v1 : Int32) (v2 : Int32) : ∃ a b, fX8_log v1 v2 I = some a ∧ fX9_log v1 v2 I = some b ∧ InvA2 I := all_log h (by omega) v1 v2
theorem al2_would {I : gM} (h : InvA2 I) (v1 : Int32) (v2 : Int32) (v3 : Int32) (v4 : Int32) (v5 : Int32) : ∃ a b, fX8_would v1 v2 v3 v4 v5 I = some a ∧ fX9_would v1 v2 v3 v4 v5 a.2 = some b ∧ InvA2 b.2 := all_would h (by omega) v1 v2 v3 v4 v5
theorem al2_run {I : gM} (h : InvA2 I) (v1 : Int32) (v2 : Int32) : ∃ a b, fX8_run v1 v2 I = some a ∧ fX9_run v1 v2 a.2 = some b ∧ InvA2 b.2 := all_run h (by omega) v1 v2
theorem al2_most {I : gM} (h : InvA2 I) (v1 : Int32) : ∃ a b, fX8_most v1 I = some a ∧ fX9_most v1 a.2 = some b ∧ InvA2 b.2 := all_most h (by omega) v1
end P_35r_41_two
section P_35r_42a_order
/-! the join of both: a sequence of letters, where each stands in a table -/
/-- where a letter stands in a list, its length: nowhere -/
def ix (x : Nat) : List Nat → Nat
  | [] => 0
  | a :: l => if a = x then 0 else ix x l + 1
theorem ix_get {x : Nat} : ∀ {l : List Nat}, ix x l < l.length → l.getD (ix x l) 0 = x
  | [], h => absurd h (Nat.not_lt_zero _)
  | a :: l, h => by
    unfold ix at h ⊢
    by_cases c : a = x
    · rw [if_pos c]; exact c
    · rw [if_neg c] at h ⊢
      exact ix_get (Nat.lt_of_succ_lt_succ h)
theorem ix_ne {x : Nat} : ∀ {l : List Nat} {c : Nat}, c < ix x l → c < l.length → l.getD c 0 ≠ x
  | [], c, _, h => absurd h (Nat.not_lt_zero _)
  | a :: l, c, h, hl => by
    unfold ix at h
    by_cases d : a = x
    · rw [if_pos d] at h; exact absurd h (Nat.not_lt_zero _)
    · rw [if_neg d] at h
      cases c with
      | zero => exact d
      | succ c => exact ix_ne (l := l) (by omega) (Nat.lt_of_succ_lt_succ hl)
theorem ix_le {x : Nat} : ∀ {l : List Nat}, ix x l ≤ l.length
  | [] => Nat.le_refl _
  | a :: l => by
    unfold ix
    by_cases c : a = x
    · rw [if_pos c]; exact Nat.zero_le _
    · rw [if_neg c]; exact Nat.succ_le_succ ix_le
theorem ix_inj {x y : Nat} {l : List Nat} (hx : ix x l < l.length) (h : ix x l = ix y l) : x = y := by
  rw [← ix_get hx, h]
  exact ix_get (by rw [← h]; exact hx)
/-- a table that is used has the letter of that depth -/
def inB (A : aT) (ls : List Nat) (t d : Nat) : Bool := A.2.1.testBit t && decide (ix (ls.getD d 0) (aL A t) < (aL A t).length)
def cI (A : aT) (ls : List Nat) (t d : Nat) : Nat := ix (ls.getD d 0) (aL A t)
theorem inB_and {A : aT} {ls : List Nat} {t d : Nat} : inB A ls t d = true ↔ A.2.1.testBit t = true ∧ cI A ls t d < (aL A t).length := by
  unfold inB cI
  rw [Bool.and_eq_true, decide_eq_true_iff]
/-- the number of a row at a depth -/
def vA (A : aT) (ls : List Nat) (t i d : Nat) : Nat := dgt (cI A ls t d) ((aK A t).getD i 0)
/-- a row has the numbers found ahead of a depth -/
def fA (A : aT) (ls : List Nat) (t i d : Nat) (f : Nat → Nat) : Prop := ∀ e, e < d → inB A ls t e = true → vA A ls t i e = f e
/-- how many letters ahead of a depth a table has -/
def pA (A : aT) (ls : List Nat) (t : Nat) : Nat → Nat
  | 0 => 0
  | d + 1 => if inB A ls t d = true then pA A ls t d + 1 else pA A ls t d
theorem pA_le {A : aT} {ls : List Nat} {t : Nat} : ∀ {d : Nat}, pA A ls t d ≤ d
  | 0 => Nat.le_refl _
  | d + 1 => by
    unfold pA
    have := pA_le (A := A) (ls := ls) (t := t) (d := d)
    split <;> omega
theorem pA_mono {A : aT} {ls : List Nat} {t : Nat} : ∀ {d e : Nat}, e ≤ d → pA A ls t e ≤ pA A ls t d
  | 0, e, h => by rw [Nat.le_zero.mp h]; exact Nat.le_refl _
  | d + 1, e, h => by
    rcases (by omega : e = d + 1 ∨ e ≤ d) with z | z
    · rw [z]; exact Nat.le_refl _
    · have := pA_mono (A := A) (ls := ls) (t := t) z
      conv => rhs; unfold pA
      split <;> omega
theorem pA_lt {A : aT} {ls : List Nat} {t d e : Nat} (h : e < d) (hi : inB A ls t e = true) : pA A ls t e < pA A ls t d := by
  have q := pA_mono (A := A) (ls := ls) (t := t) (show e + 1 ≤ d from h)
  have z : pA A ls t (e + 1) = pA A ls t e + 1 := by
    conv => lhs; unfold pA
    rw [if_pos hi]
  omega
theorem pA_ex {A : aT} {ls : List Nat} {t : Nat} : ∀ {d j : Nat}, j < pA A ls t d → ∃ e, e < d ∧ inB A ls t e = true ∧ pA A ls t e = j
  | 0, j, h => absurd h (Nat.not_lt_zero _)
  | d + 1, j, h => by
    unfold pA at h
    by_cases c : inB A ls t d = true
    · rw [if_pos c] at h
      rcases (by omega : j < pA A ls t d ∨ j = pA A ls t d) with z | z
      · obtain ⟨e, a, b, c⟩ := pA_ex z
        exact ⟨e, by omega, b, c⟩
      · exact ⟨d, by omega, c, z.symm⟩
    · rw [if_neg c] at h
      obtain ⟨e, a, b, c⟩ := pA_ex h
      exact ⟨e, by omega, b, c⟩
/-- a sequence of unlike letters -/
def okS (ls : List Nat) : Prop := ls.length ≤ 4 ∧ (∀ e, e < ls.length → ls.getD e 0 < 4) ∧ ∀ d e, d < ls.length → e < ls.length → d ≠ e → ls.getD d 0 ≠ ls.getD e 0
theorem cI_ne {A : aT} {ls : List Nat} {t d e : Nat} (hs : okS ls) (hd : d < ls.length) (he : e < ls.length) (hne : d ≠ e) (h : inB A ls t d = true) : cI A ls t d ≠ cI A ls t e := fun z => hs.2.2 d e hd he hne (ix_inj (inB_and.mp h).2 z)
theorem pA_2 {A : aT} {ls : List Nat} {t d : Nat} (hs : okS ls) (h3 : (aL A t).length ≤ 3) (hd : d < ls.length) (h : inB A ls t d = true) : pA A ls t d ≤ 2 := by
  have h4 := hs.1
  have := pA_le (A := A) (ls := ls) (t := t) (d := d)
  rcases (by omega : pA A ls t d ≤ 2 ∨ pA A ls t d = 3) with z | z
  · exact z
  · exfalso
    have d3 : d = 3 := by omega
    obtain ⟨e0, a0, i0, p0⟩ := pA_ex (A := A) (ls := ls) (t := t) (d := d) (j := 0) (by omega)
    obtain ⟨e1, a1, i1, p1⟩ := pA_ex (A := A) (ls := ls) (t := t) (d := d) (j := 1) (by omega)
    obtain ⟨e2, a2, i2, p2⟩ := pA_ex (A := A) (ls := ls) (t := t) (d := d) (j := 2) (by omega)
    have n01 : e0 ≠ e1 := fun q => by rw [q] at p0; omega
    have n02 : e0 ≠ e2 := fun q => by rw [q] at p0; omega
    have n12 : e1 ≠ e2 := fun q => by rw [q] at p1; omega
    have x0 := (inB_and.mp i0).2
    have x1 := (inB_and.mp i1).2
    have x2 := (inB_and.mp i2).2
    have x3 := (inB_and.mp h).2
    have c01 := cI_ne hs (by omega) (by omega) n01 i0
    have c02 := cI_ne hs (by omega) (by omega) n02 i0
    have c12 := cI_ne hs (by omega) (by omega) n12 i1
    have c03 := cI_ne (e := d) hs (by omega) hd (by omega) i0
    have c13 := cI_ne (e := d) hs (by omega) hd (by omega) i1
    have c23 := cI_ne (e := d) hs (by omega) hd (by omega) i2
    omega
theorem inB_t {A : aT} {ls : List Nat} {t d : Nat} (hW : WF A) (h : inB A ls t d = true) : t < A.1.length := by
  have q := (inB_and.mp h).1
  rcases Nat.lt_or_ge t A.1.length with c | c
  · exact c
  · exfalso
    have := Nat.testBit_lt_two_pow (Nat.lt_of_lt_of_le hW.2.1 (Nat.pow_le_pow_right (n := 2) (by decide) c))
    rw [this] at q
    exact absurd q (by decide)
theorem used_t {A : aT} {t : Nat} (hW : WF A) (q : A.2.1.testBit t = true) : t < A.1.length := by
  rcases Nat.lt_or_ge t A.1.length with c | c
  · exact c
  · exfalso
    have := Nat.testBit_lt_two_pow (Nat.lt_of_lt_of_le hW.2.1 (Nat.pow_le_pow_right (n := 2) (by decide) c))
    rw [this] at q
    exact absurd q (by decide)
theorem vA_99 {A : aT} {ls : List Nat} {t i d : Nat} (hW : WF A) (h : inB A ls t d = true) (hi : i < (aK A t).length) : vA A ls t i d ≤ 99 := by
  have w := hW.2.2.2.2 t (inB_t hW h)
  have k := w.2.2.2.2.2 i hi
  have c := (inB_and.mp h).2
  have w1 := w.1
  unfold vA
  rcases (by omega : cI A ls t d = 0 ∨ cI A ls t d = 1 ∨ cI A ls t d = 2) with z | z | z
  · rw [z]; exact k.1
  · rw [z]; exact k.2.1 (by omega)
  · rw [z]; exact k.2.2.2.1 (by omega)
/-! the class's search: what stands still -/
/-- the letters in their order, where their numbers are, the rows sorted by them -/
def SX (M : gM) (k : Nat) (A : aT) (ls : List Nat) (qs : Nat → List Nat) : Prop := M k 2 = nI ls.length ∧ (∀ e, e < ls.length → M (k + 2) e = nI (ls.getD e 0)) ∧ (∀ t, t < 4 → ∀ d, d < ls.length → M (k + 7) (4 * d + t) = if inB A ls t d = true then nI (14 - 7 * pA A ls t d) else -1) ∧ ∀ t, t < 4 → A.2.1.testBit t = true → ∀ j, j < (qs t).length → M (k + 5) (12 * t + j) = nI ((qs t).getD j 0)
theorem SX.cong {M r : gM} {k : Nat} {A : aT} {ls : List Nat} {qs : Nat → List Nat} (h : SX M k A ls qs) (h0 : r k 2 = M k 2) (h2 : r (k + 2) = M (k + 2)) (h7 : r (k + 7) = M (k + 7)) (h5 : r (k + 5) = M (k + 5)) : SX r k A ls qs :=
  ⟨h0.trans h.1, fun e he => by rw [h2]; exact h.2.1 e he, fun t ht d hd => by rw [h7]; exact h.2.2.1 t ht d hd, fun t ht u j hj => by rw [h5]; exact h.2.2.2 t ht u j hj⟩
/-- the sorted rows are those of the tables -/
def QS (A : aT) (ls : List Nat) (qs : Nat → List Nat) : Prop := ∀ t, t < 4 → A.2.1.testBit t = true → (qs t).length ≤ 12 ∧ (∀ i j, i < j → j < (qs t).length → (qs t).getD i 0 ≤ (qs t).getD j 0) ∧ (∀ j, j < (qs t).length → (qs t).getD j 0 < 2097152) ∧ (∀ j, j < (qs t).length → ∃ i, i < (aK A t).length ∧ ∀ d, d < ls.length → inB A ls t d = true → dgt (pA A ls t d) ((qs t).getD j 0) = vA A ls t i d) ∧ ∀ i, i < (aK A t).length → ∃ j, j < (qs t).length ∧ ∀ d, d < ls.length → inB A ls t d = true → dgt (pA A ls t d) ((qs t).getD j 0) = vA A ls t i d
/-- the number at a place, for a depth -/
def uq (A : aT) (ls : List Nat) (qs : Nat → List Nat) (t d j : Nat) : Nat := dgt (pA A ls t d) ((qs t).getD j 0)
theorem uq_99 {A : aT} {ls : List Nat} {qs : Nat → List Nat} {t d j : Nat} (hW : WF A) (hQ : QS A ls qs) (hd : d < ls.length) (h : inB A ls t d = true) (hj : j < (qs t).length) : uq A ls qs t d j ≤ 99 := by
  have ht := inB_t hW h
  obtain ⟨i, hi, e⟩ := (hQ t (by have := hW.1; omega) (inB_and.mp h).1).2.2.2.1 j hj
  unfold uq
  rw [e d hd h]
  exact vA_99 hW h hi
/-- the rows that have the numbers found ahead of a depth -/
def RG (M : gM) (k : Nat) (A : aT) (ls : List Nat) (qs : Nat → List Nat) (d : Nat) (f a b : Nat → Nat) : Prop := ∀ t, t < 4 → A.2.1.testBit t = true → M (k + 8) (4 * d + t) = nI (12 * t + a t) ∧ M (k + 9) (4 * d + t) = nI (12 * t + b t) ∧ a t ≤ b t ∧ b t ≤ (qs t).length ∧ ∀ j, j < (qs t).length → ((a t ≤ j ∧ j < b t) ↔ ∀ e, e < d → inB A ls t e = true → uq A ls qs t e j = f e)
theorem dgt_le {x y j : Nat} (hx : x < 2097152) (hy : y < 2097152) (h : x ≤ y) (hj : j ≤ 2) (hd : ∀ i, i < j → dgt i x = dgt i y) : dgt j x ≤ dgt j y := by
  rcases (by omega : j = 0 ∨ j = 1 ∨ j = 2) with rfl | rfl | rfl
  · rw [dgt_0, dgt_0]; omega
  · have h0 := hd 0 (by omega)
    rw [dgt_0, dgt_0] at h0
    rw [dgt_1, dgt_1]; omega
  · have h0 := hd 0 (by omega)
    have h1 := hd 1 (by omega)
    rw [dgt_0, dgt_0] at h0
    rw [dgt_1, dgt_1] at h1
    rw [dgt_2, dgt_2]; omega
theorem RG.mono {M : gM} {k : Nat} {A : aT} {ls : List Nat} {qs : Nat → List Nat} {d : Nat} {f a b : Nat → Nat} (hW : WF A) (hs : okS ls) (hQ : QS A ls qs) (hR : RG M k A ls qs d f a b) (hd : d < ls.length) {t i j : Nat} (h : inB A ls t d = true) (hi : a t ≤ i) (hij : i ≤ j) (hj : j < b t) : uq A ls qs t d i ≤ uq A ls qs t d j := by
  have ht := inB_t hW h
  have h4 := hW.1
  have u := (inB_and.mp h).1
  obtain ⟨_, _, _, r4, r5⟩ := hR t (by omega) u
  obtain ⟨q1, q2, q3, _, _⟩ := hQ t (by omega) u
  rcases (by omega : i = j ∨ i < j) with z | z
  · rw [z]; exact Nat.le_refl _
  · refine dgt_le (q3 i (by omega)) (q3 j (by omega)) (q2 i j z (by omega)) (pA_2 hs (hW.2.2.2.2 t ht).1.2 hd h) (fun c hc => ?_)
    obtain ⟨e, a1, a2, a3⟩ := pA_ex hc
    have e1 := (r5 i (by omega)).mp ⟨hi, by omega⟩ e a1 a2
    have e2 := (r5 j (by omega)).mp ⟨by omega, hj⟩ e a1 a2
    unfold uq at e1 e2
    rw [← a3, e1, e2]
/-- which numbers there are for a depth -/
theorem RG.set {M : gM} {k : Nat} {A : aT} {ls : List Nat} {qs : Nat → List Nat} {d : Nat} {f a b : Nat → Nat} (hW : WF A) (hQ : QS A ls qs) (hR : RG M k A ls qs d f a b) (hd : d < ls.length) {t : Nat} (h : inB A ls t d = true) (v : Nat) : (∃ j, a t ≤ j ∧ j < b t ∧ uq A ls qs t d j = v) ↔ ∃ i, i < (aK A t).length ∧ fA A ls t i d f ∧ vA A ls t i d = v := by
  have ht := inB_t hW h
  have h4 := hW.1
  have u := (inB_and.mp h).1
  obtain ⟨_, _, _, r4, r5⟩ := hR t (by omega) u
  obtain ⟨_, _, _, q4, q5⟩ := hQ t (by omega) u
  constructor
  · rintro ⟨j, h1, h2, h3⟩
    obtain ⟨i, hi, e⟩ := q4 j (by omega)
    refine ⟨i, hi, fun e' he' hi' => ?_, ?_⟩
    · rw [← e e' (by omega) hi']
      exact (r5 j (by omega)).mp ⟨h1, h2⟩ e' he' hi'
    · rw [← e d hd h]; exact h3
  · rintro ⟨i, hi, h1, h2⟩
    obtain ⟨j, hj, e⟩ := q5 i hi
    have := (r5 j hj).mpr (fun e' he' hi' => by
      show dgt _ _ = _
      rw [e e' (by omega) hi']; exact h1 e' he' hi')
    refine ⟨j, this.1, this.2, ?_⟩
    show dgt _ _ = _
    rw [e d hd h]; exact h2
/-- the least of some numbers that is no less than one -/
def LG3 (S : Nat → Prop) (g u : Nat) : Prop := S u ∧ g ≤ u ∧ ∀ w, S w → g ≤ w → u ≤ w
theorem LG3.eq {S : Nat → Prop} {g u u' : Nat} (h : LG3 S g u) (h' : LG3 S g u') : u = u' := by
  have := h.2.2 u' h'.1 h'.2.1
  have := h'.2.2 u h.1 h.2.1
  omega
end P_35r_42a_order
section P_35r_42b_search8
/-! the class's search: its steps -/
theorem kv_c {q p : Nat} (hq : q < 2097152) (hp : p ≤ 2) : (nI q >>> (nI (14 - 7 * p) &&& 31)) &&& 127 = nI (dgt p q) := by
  rcases (by omega : p = 0 ∨ p = 1 ∨ p = 2) with rfl | rfl | rfl
  · rw [show (nI (14 - 7 * 0) &&& 31) = 14 by decide +kernel, pk_shrN (by omega) 14 14 (by decide), pk_andN (by omega) 7 (by decide), dgt_0]
    congr 1; omega
  · rw [show (nI (14 - 7 * 1) &&& 31) = 7 by decide +kernel, pk_shrN (by omega) 7 7 (by decide), pk_andN (by omega) 7 (by decide), dgt_1]
  · rw [show (nI (14 - 7 * 2) &&& 31) = 0 by decide +kernel, pk_shrN (by omega) 0 0 (by decide), pk_andN (by omega) 7 (by decide), dgt_2]
    congr 1; omega
theorem sh_m1 {p : Nat} : nI (14 - 7 * p) ≠ -1 := nI_m1 (by omega)
/-- where the tables stand at a depth -/
def AT (M : gM) (k : Nat) (A : aT) (ls : List Nat) (qs : Nat → List Nat) (d : Nat) (x : Nat → Nat) : Prop := ∀ t, t < 4 → inB A ls t d = true → M (k + 10) (4 * d + t) = nI (12 * t + x t) ∧ x t < (qs t).length
section SR
variable {M : gM} {k : Nat} {A : aT} {ls : List Nat} {qs : Nat → List Nat} {d : Nat} {x : Nat → Nat}
theorem k_val (hW : WF A) (hs : okS ls) (hQ : QS A ls qs) (S : SX M k A ls qs) (hd : d < ls.length) {t j : Nat} (ht : t < 4) (h : inB A ls t d = true) (hj : j < (qs t).length) : rI 48 (M (k + 5)) (nI (12 * t + j)) = some (nI ((qs t).getD j 0)) ∧ (nI ((qs t).getD j 0) >>> (nI (14 - 7 * pA A ls t d) &&& 31)) &&& 127 = nI (uq A ls qs t d j) := by
  have u := (inB_and.mp h).1
  obtain ⟨q1, _, q3, _, _⟩ := hQ t ht u
  refine ⟨?_, ?_⟩
  · rw [rI_n (by omega) (by omega), S.2.2.2 t ht u j hj]
  · exact kv_c (q3 j hj) (pA_2 hs (hW.2.2.2.2 t (inB_t hW h)).1.2 hd h)
theorem c_greatestKey (hW : WF A) (hs : okS ls) (hQ : QS A ls qs) (S : SX M k A ls qs) (hd : d < ls.length) (hx : AT M k A ls qs d x) : ∃ g, fX1_greatestKey k (nI d) M = some g ∧ ((g = -1 ∧ ∀ t, t < 4 → inB A ls t d = false) ∨ ∃ g', g = nI g' ∧ (∀ t, t < 4 → inB A ls t d = true → uq A ls qs t d (x t) ≤ g') ∧ ∃ t, t < 4 ∧ inB A ls t d = true ∧ uq A ls qs t d (x t) = g') := by
  have h4 := hs.1
  have key : T (lX1_greatestKey_6 k (nI d) M (-1, nI (4 * d + 0))) (fun g => (g = -1 ∧ ∀ t, t < 4 → inB A ls t d = false) ∨ ∃ g', g = nI g' ∧ (∀ t, t < 4 → inB A ls t d = true → uq A ls qs t d (x t) ≤ g') ∧ ∃ t, t < 4 ∧ inB A ls t d = true ∧ uq A ls qs t d (x t) = g') := by
    unfold lX1_greatestKey_6
    refine t_it (P := fun s => ∃ c, c ≤ 4 ∧ s.2 = nI (4 * d + c) ∧ ((s.1 = -1 ∧ ∀ t, t < c → inB A ls t d = false) ∨ ∃ g', s.1 = nI g' ∧ g' ≤ 99 ∧ (∀ t, t < c → inB A ls t d = true → uq A ls qs t d (x t) ≤ g') ∧ ∃ t, t < c ∧ inB A ls t d = true ∧ uq A ls qs t d (x t) = g')) (μ := fun s => 40 - s.2.toInt.toNat) (fun s p => ?_) ⟨0, by omega, rfl, Or.inl ⟨rfl, fun t ht => absurd ht (Nat.not_lt_zero t)⟩⟩
    obtain ⟨s1, s2⟩ := s
    obtain ⟨c, hc, e, p⟩ := p
    dsimp only at e p
    subst e
    dsimp only
    have mu : c < 4 → 40 - (nI (4 * d + c) + 1).toInt.toNat < 40 - (nI (4 * d + c)).toInt.toNat := fun _ => by rw [nI_1, nIt (by omega), nIt (by omega)]; omega
    rw [nI_1 d, L4, nI_mul]
    refine t_ite (fun q => ?_) (fun q => ?_)
    · have q := (nI_leI (by omega) (by omega)).mp q
      have : c = 4 := by omega
      subst this
      refine t_ret ?_
      rcases p with ⟨p1, p2⟩ | ⟨g', p1, _, p2, p3⟩
      · exact Or.inl ⟨p1, p2⟩
      · exact Or.inr ⟨g', p1, p2, p3⟩
    · have q := mt (nI_leI (a := (d + 1) * 4) (b := 4 * d + c) (by omega) (by omega)).mpr q
      have c4 : c < 4 := by omega
      refine t_be (rI_n (by omega) (by omega)) ?_
      rw [S.2.2.1 c c4 d hd]
      by_cases i : inB A ls c d = true
      · rw [if_pos i, if_neg sh_m1]
        obtain ⟨x1, x2⟩ := hx c c4 i
        obtain ⟨v1, v2⟩ := k_val hW hs hQ S hd c4 i x2
        have v99 := uq_99 hW hQ hd i x2
        refine t_be (rI_n (by omega) (by omega)) ?_
        rw [x1]
        refine t_be v1 ?_
        refine t_be (rI_n (by omega) (by omega)) ?_
        rw [S.2.2.1 c c4 d hd, if_pos i, v2]
        unfold bX1_greatestKey_51
        refine t_nx ⟨c + 1, by omega, nI_1 _, Or.inr ?_⟩ (mu c4)
        dsimp only
        generalize hu : uq A ls qs c d (x c) = uu at *
        rcases p with ⟨p1, p2⟩ | ⟨g', p1, p99, p2, t', t1, t2, t3⟩
        · refine ⟨uu, ?_, v99, fun t ht hi => ?_, c, by omega, i, hu⟩
          · rw [p1]
            obtain ⟨m1, m2, m3 | m3⟩ := mX_ge (a := (-1 : Int32)) (b := nI uu)
            · exfalso
              rw [m3, tnI (by omega), show ((-1 : Int32)).toInt = -1 by decide] at m2
              omega
            · exact m3
          · rcases (by omega : t < c ∨ t = c) with z | z
            · rw [p2 t z] at hi; exact absurd hi (by decide)
            · rw [z, hu]; exact Nat.le_refl _
        · rw [p1]
          obtain ⟨m1, m2, m3⟩ := mX_ge (a := nI g') (b := nI uu)
          rcases m3 with m3 | m3
          · rw [m3, tnI (by omega), tnI (by omega)] at m2
            refine ⟨g', m3, p99, fun t ht hi => ?_, t', by omega, t2, t3⟩
            rcases (by omega : t < c ∨ t = c) with z | z
            · exact p2 t z hi
            · rw [z, hu]; omega
          · rw [m3, tnI (by omega), tnI (by omega)] at m1
            refine ⟨uu, m3, v99, fun t ht hi => ?_, c, by omega, i, hu⟩
            rcases (by omega : t < c ∨ t = c) with z | z
            · have := p2 t z hi
              omega
            · rw [z, hu]; exact Nat.le_refl _
      · rw [if_neg i, if_pos rfl]
        unfold bX1_greatestKey_51
        refine t_nx ⟨c + 1, by omega, nI_1 _, ?_⟩ (mu c4)
        have ib : inB A ls c d = false := by
          cases hh : inB A ls c d with
          | true => exact absurd hh i
          | false => rfl
        rcases p with ⟨p1, p2⟩ | ⟨g', p1, p99, p2, t', t1, t2, t3⟩
        · refine Or.inl ⟨p1, fun t ht => ?_⟩
          rcases (by omega : t < c ∨ t = c) with z | z
          · exact p2 t z
          · rw [z]; exact ib
        · refine Or.inr ⟨g', p1, p99, fun t ht hi => ?_, t', by omega, t2, t3⟩
          rcases (by omega : t < c ∨ t = c) with z | z
          · exact p2 t z hi
          · rw [z] at hi; exact absurd hi i
  obtain ⟨g, e, h⟩ := key
  refine ⟨g, ?_, h⟩
  unfold fX1_greatestKey
  rw [L4, nI_mul, show ((-1 : Int32), nI (d * 4)) = (-1, nI (4 * d + 0)) by rw [Nat.mul_comm]; rfl, e, obs]
theorem c_lowestBelow (hW : WF A) (hs : okS ls) (hQ : QS A ls qs) (S : SX M k A ls qs) (hd : d < ls.length) (hx : AT M k A ls qs d x) {v : Nat} (hv : v < 1000) : ∃ r, fX1_lowestBelow k (nI d) (nI v) M = some r ∧ ((∃ t, t < 4 ∧ r = nI t ∧ inB A ls t d = true ∧ uq A ls qs t d (x t) < v ∧ ∀ t', t' < t → inB A ls t' d = true → v ≤ uq A ls qs t' d (x t')) ∨ (r = -1 ∧ ∀ t, t < 4 → inB A ls t d = true → v ≤ uq A ls qs t d (x t))) := by
  have h4 := hs.1
  have key : T (lX1_lowestBelow_2 k (nI d) (nI v) M (nI 0)) (Sum.elim (fun r => ∃ t, t < 4 ∧ r = nI t ∧ inB A ls t d = true ∧ uq A ls qs t d (x t) < v ∧ ∀ t', t' < t → inB A ls t' d = true → v ≤ uq A ls qs t' d (x t')) (fun _ : Unit => ∀ t, t < 4 → inB A ls t d = true → v ≤ uq A ls qs t d (x t))) := by
    unfold lX1_lowestBelow_2
    refine t_it (P := fun s => ∃ c, c ≤ 4 ∧ s = nI c ∧ ∀ t, t < c → inB A ls t d = true → v ≤ uq A ls qs t d (x t)) (μ := fun s => 40 - s.toInt.toNat) (fun s p => ?_) ⟨0, by omega, rfl, fun t ht => absurd ht (Nat.not_lt_zero t)⟩
    obtain ⟨c, hc, rfl, p⟩ := p
    have mu : c < 4 → 40 - (nI c + 1).toInt.toNat < 40 - (nI c).toInt.toNat := fun _ => by rw [nI_1, nIt (by omega), nIt (by omega)]; omega
    rw [L4]
    refine t_ite (fun q => ?_) (fun q => ?_)
    · have q := (nI_leI (by omega) (by omega)).mp q
      have : c = 4 := by omega
      subst this
      exact t_ret p
    · have q := mt (nI_leI (a := 4) (b := c) (by omega) (by omega)).mpr q
      have c4 : c < 4 := by omega
      rw [nI_mul, nI_add, show d * 4 + c = 4 * d + c by omega]
      refine t_be (rI_n (by omega) (by omega)) ?_
      rw [S.2.2.1 c c4 d hd]
      by_cases i : inB A ls c d = true
      · rw [if_pos i, if_neg sh_m1]
        obtain ⟨x1, x2⟩ := hx c c4 i
        obtain ⟨v1, v2⟩ := k_val hW hs hQ S hd c4 i x2
        have v99 := uq_99 hW hQ hd i x2
        refine t_be (rI_n (by omega) (by omega)) ?_
        rw [x1]
        refine t_be v1 ?_
        refine t_be (rI_n (by omega) (by omega)) ?_
        rw [S.2.2.1 c c4 d hd, if_pos i, v2]
        refine t_ite (fun z => ?_) (fun z => ?_)
        · have z := (nI_leI (by omega) (by omega)).mp z
          unfold bX1_lowestBelow_54
          refine t_nx ⟨c + 1, by omega, nI_1 _, fun t ht hi => ?_⟩ (mu c4)
          rcases (by omega : t < c ∨ t = c) with y | y
          · exact p t y hi
          · rw [y]; exact z
        · have z := mt (nI_leI (a := v) (b := uq A ls qs c d (x c)) (by omega) (by omega)).mpr z
          exact t_ret (show ∃ t, t < 4 ∧ nI c = nI t ∧ _ from ⟨c, c4, rfl, i, by omega, p⟩)
      · rw [if_neg i, if_pos rfl]
        unfold bX1_lowestBelow_54
        refine t_nx ⟨c + 1, by omega, nI_1 _, fun t ht hi => ?_⟩ (mu c4)
        rcases (by omega : t < c ∨ t = c) with y | y
        · exact p t y hi
        · rw [y] at hi; exact absurd hi i
  obtain ⟨r, e, h⟩ := key
  unfold fX1_lowestBelow
  rw [show (0 : Int32) = nI 0 from rfl, e, obs]
  rcases r with r | r
  · exact ⟨r, rfl, Or.inl h⟩
  · exact ⟨-1, rfl, Or.inr ⟨rfl, h⟩⟩
/-- a leap -/
theorem c_isLeapt (hW : WF A) (hs : okS ls) (hQ : QS A ls qs) (S : SX M k A ls qs) (hd : d < ls.length) {t b v y : Nat} (h : inB A ls t d = true) (hv : v < 1000) (ea : M (k + 10) (4 * d + t) = nI (12 * t + y)) (eb : M (k + 9) (4 * d + t) = nI (12 * t + b)) (hyb : y ≤ b) (hb : b ≤ (qs t).length) :
    ∃ y' r, fX1_isLeapt k (nI (4 * d + t)) (nI v) M = some (if y' < b then 1 else 0, r) ∧ y ≤ y' ∧ y' ≤ b ∧ (∀ j, y ≤ j → j < y' → uq A ls qs t d j < v) ∧ (y' < b → v ≤ uq A ls qs t d y') ∧ (∀ q, q ≠ k → q ≠ k + 10 → r q = M q) ∧ (∀ j, r (k + 10) j = if j = 4 * d + t then nI (12 * t + y') else M (k + 10) j) ∧ r k 1 = M k 1 + 1 ∧ ∀ j, j ≠ 1 → r k j = M k j := by
  have h4 := hs.1
  have ht := inB_t hW h
  have hn4 := hW.1
  have u := (inB_and.mp h).1
  obtain ⟨q1, _⟩ := hQ t (by omega) u
  have key : T (lX1_isLeapt_7 k (nI (4 * d + t)) (nI v) M (nI (12 * t + y))) (fun r => ∃ y', r = nI (12 * t + y') ∧ y ≤ y' ∧ y' ≤ b ∧ (∀ j, y ≤ j → j < y' → uq A ls qs t d j < v) ∧ (y' < b → v ≤ uq A ls qs t d y')) := by
    unfold lX1_isLeapt_7
    refine t_it (P := fun s => ∃ y', s = nI (12 * t + y') ∧ y ≤ y' ∧ y' ≤ b ∧ (∀ j, y ≤ j → j < y' → uq A ls qs t d j < v)) (μ := fun s => 100 - s.toInt.toNat) (fun s p => ?_) ⟨y, rfl, Nat.le_refl _, hyb, fun j a b => by omega⟩
    obtain ⟨y', rfl, p1, p2, p3⟩ := p
    refine t_be (rI_n (by omega) (by omega)) ?_
    rw [eb]
    refine t_ite (fun q => ?_) (fun q => ?_)
    · have q := (nI_leI (by omega) (by omega)).mp q
      exact t_ret ⟨y', rfl, p1, p2, p3, fun z => by omega⟩
    · have q := mt (nI_leI (a := 12 * t + b) (b := 12 * t + y') (by omega) (by omega)).mpr q
      obtain ⟨v1, v2⟩ := k_val hW hs hQ S hd (by omega) h (show y' < (qs t).length by omega)
      have v99 := uq_99 hW hQ hd h (show y' < (qs t).length by omega)
      refine t_be v1 ?_
      refine t_be (rI_n (by omega) (by omega)) ?_
      rw [S.2.2.1 t (by omega) d hd, if_pos h, v2]
      refine t_ite (fun z => ?_) (fun z => ?_)
      · have z := (nI_leI (by omega) (by omega)).mp z
        exact t_ret ⟨y', rfl, p1, p2, p3, fun _ => z⟩
      · have z := mt (nI_leI (a := v) (b := uq A ls qs t d y') (by omega) (by omega)).mpr z
        rw [nI_1]
        refine t_nx ⟨y' + 1, rfl, by omega, by omega, fun j a b => ?_⟩ (by rw [nIt (by omega), nIt (by omega)]; omega)
        rcases (by omega : j < y' ∨ j = y') with w | w
        · exact p3 j a w
        · rw [w]; omega
  obtain ⟨r, e, y', rfl, p1, p2, p3, p4⟩ := key
  unfold fX1_isLeapt bX1_isLeapt_43
  rw [rI_n (by omega) (by omega), obs, ea, e, obs, wI_n (by omega) (by omega), obs, pU_n, obs, rI_n (by omega) (by omega), obs]
  have e9 : ∀ {N : gM} {w1 w2 : Int32}, g_up (g_up N (k + 10) (4 * d + t) w1) k 1 w2 (k + 9) (4 * d + t) = N (k + 9) (4 * d + t) := fun {N w1 w2} => by rw [g_up_row (by omega), g_up_row (by omega)]
  rw [e9, eb]
  refine ⟨y', g_up (g_up M (k + 10) (4 * d + t) (nI (12 * t + y'))) k 1 (g_up M (k + 10) (4 * d + t) (nI (12 * t + y')) k 1 + 1), ?_, p1, p2, p3, p4, fun q a b => by rw [g_up_row a, g_up_row b], fun j => by rw [g_up_row (by omega), gu_in], by rw [g_up_self, g_up_row (by omega)], fun j hj => by rw [g_up_ne (Or.inr hj), g_up_row (by omega)]⟩
  by_cases c : y' < b
  · rw [if_neg (mt (nI_leI (by omega) (by omega)).mp (by omega)), if_pos c]
  · rw [if_pos ((nI_leI (by omega) (by omega)).mpr (by omega)), if_neg c]
/-- all stand at their first row -/
theorem c_isOpened (hW : WF A) (hs : okS ls) (hQ : QS A ls qs) (S : SX M k A ls qs) (hd : d < ls.length) {f a b : Nat → Nat} (hR : RG M k A ls qs d f a b) : ∃ v r, fX1_isOpened k (nI d) M = some (v, r) ∧ (∀ q, q ≠ k + 10 → r q = M q) ∧ (∀ j, j < 4 * d ∨ 4 * d + 4 ≤ j → r (k + 10) j = M (k + 10) j) ∧ ((v = 1 ∧ (∀ t, t < 4 → r (k + 10) (4 * d + t) = M (k + 8) (4 * d + t)) ∧ ∀ t, t < 4 → inB A ls t d = true → a t < b t) ∨ (v = 0 ∧ ∃ t, t < 4 ∧ inB A ls t d = true ∧ a t = b t)) := by
  have h4 := hs.1
  have key : T (lX1_isOpened_4 k (nI d) (nI (4 * d + 0), M)) (Sum.elim (fun r => (∀ q, q ≠ k + 10 → r q = M q) ∧ (∀ j, j < 4 * d ∨ 4 * d + 4 ≤ j → r (k + 10) j = M (k + 10) j) ∧ ∃ t, t < 4 ∧ inB A ls t d = true ∧ a t = b t) (fun r => (∀ q, q ≠ k + 10 → r q = M q) ∧ (∀ j, j < 4 * d ∨ 4 * d + 4 ≤ j → r (k + 10) j = M (k + 10) j) ∧ (∀ t, t < 4 → r (k + 10) (4 * d + t) = M (k + 8) (4 * d + t)) ∧ ∀ t, t < 4 → inB A ls t d = true → a t < b t)) := by
    unfold lX1_isOpened_4
    refine t_it (P := fun s => ∃ c, c ≤ 4 ∧ s.1 = nI (4 * d + c) ∧ (∀ q, q ≠ k + 10 → s.2 q = M q) ∧ (∀ j, j < 4 * d ∨ 4 * d + 4 ≤ j → s.2 (k + 10) j = M (k + 10) j) ∧ (∀ t, t < c → s.2 (k + 10) (4 * d + t) = M (k + 8) (4 * d + t)) ∧ ∀ t, t < c → inB A ls t d = true → a t < b t) (μ := fun s => 40 - s.1.toInt.toNat) (fun s p => ?_) ⟨0, by omega, rfl, fun _ _ => rfl, fun _ _ => rfl, fun t ht => absurd ht (Nat.not_lt_zero t), fun t ht => absurd ht (Nat.not_lt_zero t)⟩
    obtain ⟨s1, N⟩ := s
    obtain ⟨c, hc, e, p1, p2, p3, p4⟩ := p
    dsimp only at e p1 p2 p3
    subst e
    dsimp only
    rw [nI_1 d, L4, nI_mul]
    refine t_ite (fun q => ?_) (fun q => ?_)
    · have q := (nI_leI (by omega) (by omega)).mp q
      have : c = 4 := by omega
      subst this
      exact t_ret (show (∀ q, q ≠ k + 10 → N q = M q) ∧ _ from ⟨p1, p2, p3, p4⟩)
    · have q := mt (nI_leI (a := (d + 1) * 4) (b := 4 * d + c) (by omega) (by omega)).mpr q
      have c4 : c < 4 := by omega
      refine t_be (rI_n (by omega) (by omega)) ?_
      refine t_be (wI_n (by omega) (by omega)) ?_
      have k8 : ∀ {w : Int32} {j : Nat}, g_up N (k + 10) (4 * d + c) w (k + 7) j = M (k + 7) j := fun {w j} => by rw [g_up_row (by omega), p1 _ (by omega)]
      have k8' : ∀ {w : Int32} {j : Nat}, g_up N (k + 10) (4 * d + c) w (k + 8) j = M (k + 8) j := fun {w j} => by rw [g_up_row (by omega), p1 _ (by omega)]
      have k9' : ∀ {w : Int32} {j : Nat}, g_up N (k + 10) (4 * d + c) w (k + 9) j = M (k + 9) j := fun {w j} => by rw [g_up_row (by omega), p1 _ (by omega)]
      have e8 : N (k + 8) (4 * d + c) = M (k + 8) (4 * d + c) := by rw [p1 _ (by omega)]
      refine t_be (rI_n (by omega) (by omega)) ?_
      rw [k8, S.2.2.1 c c4 d hd, e8]
      generalize hN : g_up N (k + 10) (4 * d + c) (M (k + 8) (4 * d + c)) = N'
      have n1 : ∀ q, q ≠ k + 10 → N' q = M q := fun q hq => by rw [← hN, g_up_row hq]; exact p1 q hq
      have n2 : ∀ j, j < 4 * d ∨ 4 * d + 4 ≤ j → N' (k + 10) j = M (k + 10) j := fun j hj => by rw [← hN, g_up_ne (Or.inr (by omega))]; exact p2 j hj
      have n3 : ∀ t, t < c + 1 → N' (k + 10) (4 * d + t) = M (k + 8) (4 * d + t) := fun t ht => by
        rw [← hN, gu_in]
        rcases (by omega : t < c ∨ t = c) with z | z
        · rw [if_neg (by omega)]; exact p3 t z
        · rw [z, if_pos rfl]
      have mu : 40 - (nI (4 * d + c) + 1).toInt.toNat < 40 - (nI (4 * d + c)).toInt.toNat := by rw [nI_1, nIt (by omega), nIt (by omega)]; omega
      by_cases i : inB A ls c d = true
      · obtain ⟨r1, r2, r3, r4, _⟩ := hR c c4 (inB_and.mp i).1
        obtain ⟨q1, _⟩ := hQ c c4 (inB_and.mp i).1
        rw [if_pos i, if_neg sh_m1]
        refine t_be (rI_n (by omega) (by omega)) ?_
        refine t_be (rI_n (by omega) (by omega)) ?_
        rw [n1 (k + 8) (by omega), n1 (k + 9) (by omega), r1, r2]
        refine t_ite (fun z => ?_) (fun z => ?_)
        · have z := (nI_ltI (by omega) (by omega)).mp z
          unfold bX1_isOpened_52
          refine t_nx ⟨c + 1, by omega, nI_1 _, n1, n2, n3, fun t ht hi => ?_⟩ mu
          rcases (by omega : t < c ∨ t = c) with y | y
          · exact p4 t y hi
          · rw [y]; omega
        · have z := mt (nI_ltI (a := 12 * c + a c) (b := 12 * c + b c) (by omega) (by omega)).mpr z
          exact t_ret (show (∀ q, q ≠ k + 10 → N' q = M q) ∧ _ from ⟨n1, n2, c, c4, i, by omega⟩)
      · rw [if_neg i, if_pos rfl]
        unfold bX1_isOpened_52
        refine t_nx ⟨c + 1, by omega, nI_1 _, n1, n2, n3, fun t ht hi => ?_⟩ mu
        rcases (by omega : t < c ∨ t = c) with y | y
        · exact p4 t y hi
        · rw [y] at hi; exact absurd hi i
  obtain ⟨w, e, h⟩ := key
  have e0 : (nI (d * 4), M) = (nI (4 * d + 0), M) := by rw [Nat.mul_comm]; rfl
  unfold fX1_isOpened
  rw [L4, nI_mul, e0, e, obs]
  rcases w with w | w
  · obtain ⟨h1, h2, h3⟩ := h
    exact ⟨0, w, rfl, h1, h2, Or.inr ⟨rfl, h3⟩⟩
  · obtain ⟨h1, h2, h3, h4⟩ := h
    exact ⟨1, w, rfl, h1, h2, Or.inl ⟨rfl, h3, h4⟩⟩
/-- for the next depth: the rows with the number found -/
theorem c_narrow (hW : WF A) (hs : okS ls) (hQ : QS A ls qs) (S : SX M k A ls qs) (hd : d + 1 < ls.length) {f a b : Nat → Nat} (hR : RG M k A ls qs d f a b) {v : Nat} (hv : v < 1000)
    (hin : ∀ t, t < 4 → inB A ls t d = true → M (k + 10) (4 * d + t) = nI (12 * t + x t) ∧ a t ≤ x t ∧ x t < b t ∧ uq A ls qs t d (x t) = v ∧ ∀ j, a t ≤ j → j < x t → uq A ls qs t d j < v)
    (hout : ∀ t, t < 4 → A.2.1.testBit t = true → inB A ls t d = false → M (k + 10) (4 * d + t) = nI (12 * t + a t)) :
    ∃ r a' b', fX1_narrow k (nI d) (nI v) M = some r ∧ RG r k A ls qs (d + 1) (fun e => if e = d then v else f e) a' b' ∧ (∀ q, q ≠ k + 8 → q ≠ k + 9 → r q = M q) ∧ (∀ j, j < 4 * (d + 1) → r (k + 8) j = M (k + 8) j ∧ r (k + 9) j = M (k + 9) j) := by
  have h4 := hs.1
  -- what one table has then
  have goal1 : ∀ (t a' b' : Nat), t < 4 → A.2.1.testBit t = true → a' ≤ b' → b' ≤ (qs t).length → (∀ j, j < (qs t).length → ((a' ≤ j ∧ j < b') ↔ (a t ≤ j ∧ j < b t) ∧ (inB A ls t d = true → uq A ls qs t d j = v))) → ∀ j, j < (qs t).length → ((a' ≤ j ∧ j < b') ↔ ∀ e, e < d + 1 → inB A ls t e = true → uq A ls qs t e j = if e = d then v else f e) := by
    intro t a' b' ht u h1 h2 h3 j hj
    rw [h3 j hj, (hR t ht u).2.2.2.2 j hj]
    constructor
    · rintro ⟨g1, g2⟩ e he hi
      rcases (by omega : e < d ∨ e = d) with z | z
      · rw [if_neg (by omega)]; exact g1 e z hi
      · rw [if_pos z]
        subst z
        exact g2 hi
    · intro g
      refine ⟨fun e he hi => ?_, fun hi => ?_⟩
      · have := g e (by omega) hi
        rw [if_neg (by omega)] at this
        exact this
      · have := g d (by omega) hi
        rw [if_pos rfl] at this
        exact this
  have key : T (lX1_narrow_4 k (nI d) (nI v) (nI (4 * d + 0), M)) (fun r => (∀ q, q ≠ k + 8 → q ≠ k + 9 → r q = M q) ∧ (∀ j, j < 4 * (d + 1) → r (k + 8) j = M (k + 8) j ∧ r (k + 9) j = M (k + 9) j) ∧ ∀ t, t < 4 → A.2.1.testBit t = true → ∃ a' b', r (k + 8) (4 * (d + 1) + t) = nI (12 * t + a') ∧ r (k + 9) (4 * (d + 1) + t) = nI (12 * t + b') ∧ a' ≤ b' ∧ b' ≤ (qs t).length ∧ ∀ j, j < (qs t).length → ((a' ≤ j ∧ j < b') ↔ (a t ≤ j ∧ j < b t) ∧ (inB A ls t d = true → uq A ls qs t d j = v))) := by
    unfold lX1_narrow_4
    refine t_it (P := fun s => ∃ c, c ≤ 4 ∧ s.1 = nI (4 * d + c) ∧ (∀ q, q ≠ k + 8 → q ≠ k + 9 → s.2 q = M q) ∧ (∀ j, j < 4 * (d + 1) → s.2 (k + 8) j = M (k + 8) j ∧ s.2 (k + 9) j = M (k + 9) j) ∧ ∀ t, t < c → A.2.1.testBit t = true → ∃ a' b', s.2 (k + 8) (4 * (d + 1) + t) = nI (12 * t + a') ∧ s.2 (k + 9) (4 * (d + 1) + t) = nI (12 * t + b') ∧ a' ≤ b' ∧ b' ≤ (qs t).length ∧ ∀ j, j < (qs t).length → ((a' ≤ j ∧ j < b') ↔ (a t ≤ j ∧ j < b t) ∧ (inB A ls t d = true → uq A ls qs t d j = v))) (μ := fun s => 40 - s.1.toInt.toNat) (fun s p => ?_) ⟨0, by omega, rfl, fun _ _ _ => rfl, fun _ _ => ⟨rfl, rfl⟩, fun t ht => absurd ht (Nat.not_lt_zero t)⟩
    obtain ⟨s1, N⟩ := s
    obtain ⟨c, hc, e, p1, p2, p3⟩ := p
    dsimp only at e p1 p2 p3
    subst e
    dsimp only
    rw [nI_1 d, L4, nI_mul]
    refine t_ite (fun q => ?_) (fun q => ?_)
    · have q := (nI_leI (by omega) (by omega)).mp q
      have : c = 4 := by omega
      subst this
      exact t_ret (show (∀ q, q ≠ k + 8 → q ≠ k + 9 → N q = M q) ∧ _ from ⟨p1, p2, p3⟩)
    · have q := mt (nI_leI (a := (d + 1) * 4) (b := 4 * d + c) (by omega) (by omega)).mpr q
      have c4 : c < 4 := by omega
      have mu : 40 - (nI (4 * d + c) + 1).toInt.toNat < 40 - (nI (4 * d + c)).toInt.toNat := by rw [nI_1, nIt (by omega), nIt (by omega)]; omega
      rw [nI_add, show 4 * d + c + 4 = 4 * (d + 1) + c by omega]
      refine t_be (rI_n (by omega) (by omega)) ?_
      refine t_be (wI_n (by omega) (by omega)) ?_
      refine t_be (rI_n (by omega) (by omega)) ?_
      refine t_be (wI_n (by omega) (by omega)) ?_
      have e10 : N (k + 10) (4 * d + c) = M (k + 10) (4 * d + c) := by rw [p1 _ (by omega) (by omega)]
      have e9 : g_up N (k + 8) (4 * (d + 1) + c) (N (k + 10) (4 * d + c)) (k + 9) (4 * d + c) = M (k + 9) (4 * d + c) := by rw [g_up_row (by omega)]; exact (p2 _ (by omega)).2
      rw [e9, e10]
      generalize hN : g_up (g_up N (k + 8) (4 * (d + 1) + c) (M (k + 10) (4 * d + c))) (k + 9) (4 * (d + 1) + c) (M (k + 9) (4 * d + c)) = N'
      have n1 : ∀ q, q ≠ k + 8 → q ≠ k + 9 → N' q = M q := fun q h1 h2 => by rw [← hN, g_up_row h2, g_up_row h1]; exact p1 q h1 h2
      have n8 : ∀ j, N' (k + 8) j = if j = 4 * (d + 1) + c then M (k + 10) (4 * d + c) else N (k + 8) j := fun j => by rw [← hN, g_up_row (by omega), gu_in]
      have n9 : ∀ j, N' (k + 9) j = if j = 4 * (d + 1) + c then M (k + 9) (4 * d + c) else N (k + 9) j := fun j => by rw [← hN, gu_in, g_up_row (by omega)]
      have n2 : ∀ j, j < 4 * (d + 1) → N' (k + 8) j = M (k + 8) j ∧ N' (k + 9) j = M (k + 9) j := fun j hj => by
        rw [n8, n9, if_neg (by omega), if_neg (by omega)]; exact p2 j hj
      refine t_be (rI_n (by omega) (by omega)) ?_
      rw [n1 (k + 7) (by omega) (by omega), S.2.2.1 c c4 d (by omega)]
      by_cases i : inB A ls c d = true
      · have u := (inB_and.mp i).1
        obtain ⟨r1, r2, r3, r4, _⟩ := hR c c4 u
        obtain ⟨q1, _⟩ := hQ c c4 u
        obtain ⟨x1, x2, x3, x4, x5⟩ := hin c c4 i
        rw [if_pos i, if_neg sh_m1]
        refine t_be (rI_n (by omega) (by omega)) ?_
        rw [n1 (k + 10) (by omega) (by omega), x1]
        have inner : T (lX1_narrow_62 k (nI v) (nI (4 * d + c)) N' (nI (12 * c + x c))) (fun r => ∃ y, r = nI (12 * c + y) ∧ x c ≤ y ∧ y ≤ b c ∧ (∀ j, x c ≤ j → j < y → uq A ls qs c d j = v) ∧ (y < b c → uq A ls qs c d y ≠ v)) := by
          unfold lX1_narrow_62
          refine t_it (P := fun s => ∃ y, s = nI (12 * c + y) ∧ x c ≤ y ∧ y ≤ b c ∧ (∀ j, x c ≤ j → j < y → uq A ls qs c d j = v)) (μ := fun s => 100 - s.toInt.toNat) (fun s p => ?_) ⟨x c, rfl, Nat.le_refl _, by omega, fun j a b => by omega⟩
          obtain ⟨y, rfl, g1, g2, g3⟩ := p
          refine t_be (rI_n (by omega) (by omega)) ?_
          rw [(n2 _ (by omega)).2, r2]
          refine t_ite (fun q => ?_) (fun q => ?_)
          · have q := (nI_leI (by omega) (by omega)).mp q
            exact t_ret ⟨y, rfl, g1, g2, g3, fun z => by omega⟩
          · have q := mt (nI_leI (a := 12 * c + b c) (b := 12 * c + y) (by omega) (by omega)).mpr q
            obtain ⟨v1, v2⟩ := k_val hW hs hQ S (d := d) (by omega) c4 i (show y < (qs c).length by omega)
            have v99 := uq_99 hW hQ (by omega) i (show y < (qs c).length by omega)
            rw [n1 (k + 5) (by omega) (by omega)]
            refine t_be v1 ?_
            refine t_be (rI_n (by omega) (by omega)) ?_
            rw [n1 (k + 7) (by omega) (by omega), S.2.2.1 c c4 d (by omega), if_pos i, v2]
            refine t_ite (fun z => ?_) (fun z => ?_)
            · have z := nI_inj z (by omega) (by omega)
              rw [nI_1]
              refine t_nx ⟨y + 1, rfl, by omega, by omega, fun j a b => ?_⟩ (by rw [nIt (by omega), nIt (by omega)]; omega)
              rcases (by omega : j < y ∨ j = y) with w | w
              · exact g3 j a w
              · rw [w]; exact z
            · exact t_ret ⟨y, rfl, g1, g2, g3, fun _ w => z (by rw [w])⟩
        refine t_bind inner (fun w10 ⟨y, ey, g1, g2, g3, g4⟩ => ?_)
        subst ey
        unfold bX1_narrow_100 bX1_narrow_109
        refine t_be (wI_n (by omega) (by omega)) ?_
        refine t_nx ⟨c + 1, by omega, nI_1 _, fun q h1 h2 => by dsimp only; rw [g_up_row h2]; exact n1 q h1 h2, fun j hj => ?_, fun t ht hu => ?_⟩ mu
        · dsimp only
          rw [g_up_row (by omega), g_up_ne (Or.inr (by omega))]; exact n2 j hj
        · dsimp only
          rcases (by omega : t < c ∨ t = c) with z | z
          · obtain ⟨a', b', y1, y2, y3, y4, y5⟩ := p3 t z hu
            exact ⟨a', b', by rw [g_up_row (by omega), n8, if_neg (by omega)]; exact y1, by rw [g_up_ne (Or.inr (by omega)), n9, if_neg (by omega)]; exact y2, y3, y4, y5⟩
          · subst z
            refine ⟨x t, y, by rw [g_up_row (by omega), n8, if_pos rfl]; exact x1, by rw [g_up_self], g1, by omega, fun j hj => ⟨fun ⟨z1, z2⟩ => ⟨⟨by omega, by omega⟩, fun _ => g3 j z1 z2⟩, fun ⟨⟨z1, z2⟩, z3⟩ => ?_⟩⟩
            have z3 := z3 i
            refine ⟨?_, ?_⟩
            · rcases Nat.lt_or_ge j (x t) with w | w
              · have := x5 j z1 w
                omega
              · exact w
            · rcases Nat.lt_or_ge j y with w | w
              · exact w
              · exfalso
                have m1 := hR.mono hW hs hQ (d := d) (by omega) i (show a t ≤ y by omega) w z2
                have m2 := hR.mono hW hs hQ (d := d) (by omega) i x2 g1 (show y < b t by omega)
                exact g4 (by omega) (by omega)
      · have ib : inB A ls c d = false := by
          cases hh : inB A ls c d with
          | true => exact absurd hh i
          | false => rfl
        rw [if_neg i, if_pos rfl]
        unfold bX1_narrow_109
        refine t_nx ⟨c + 1, by omega, nI_1 _, n1, n2, fun t ht hu => ?_⟩ mu
        dsimp only
        rcases (by omega : t < c ∨ t = c) with z | z
        · obtain ⟨a', b', y1, y2, y3, y4, y5⟩ := p3 t z hu
          exact ⟨a', b', by rw [n8, if_neg (by omega)]; exact y1, by rw [n9, if_neg (by omega)]; exact y2, y3, y4, y5⟩
        · subst z
          obtain ⟨r1, r2, r3, r4, _⟩ := hR t c4 hu
          refine ⟨a t, b t, by rw [n8, if_pos rfl]; exact hout t (by omega) hu ib, by rw [n9, if_pos rfl]; exact r2, r3, r4, fun j hj => ⟨fun z => ⟨z, fun w => absurd w i⟩, fun z => z.1⟩⟩
  obtain ⟨r, e, h1, h2, h3⟩ := key
  have e0 : (nI (d * 4), M) = (nI (4 * d + 0), M) := by rw [Nat.mul_comm]; rfl
  -- the bounds as functions
  have ch : ∀ t, ∃ p : Nat × Nat, t < 4 → A.2.1.testBit t = true → r (k + 8) (4 * (d + 1) + t) = nI (12 * t + p.1) ∧ r (k + 9) (4 * (d + 1) + t) = nI (12 * t + p.2) ∧ p.1 ≤ p.2 ∧ p.2 ≤ (qs t).length ∧ ∀ j, j < (qs t).length → ((p.1 ≤ j ∧ j < p.2) ↔ (a t ≤ j ∧ j < b t) ∧ (inB A ls t d = true → uq A ls qs t d j = v)) := by
    intro t
    by_cases c : t < 4 ∧ A.2.1.testBit t = true
    · obtain ⟨a', b', g⟩ := h3 t c.1 c.2
      exact ⟨(a', b'), fun _ _ => g⟩
    · exact ⟨(0, 0), fun c1 c2 => absurd ⟨c1, c2⟩ c⟩
  have ch' := fun t => Classical.choose_spec (ch t)
  refine ⟨r, fun t => (Classical.choose (ch t)).1, fun t => (Classical.choose (ch t)).2, ?_, fun t ht u => ?_, h1, h2⟩
  · unfold fX1_narrow
    rw [L4, nI_mul, e0, e, obs]
  · obtain ⟨g1, g2, g3, g4, g5⟩ := ch' t ht u
    exact ⟨g1, g2, g3, g4, goal1 t _ _ ht u g3 g4 g5⟩
end SR
end P_35r_42b_search8
