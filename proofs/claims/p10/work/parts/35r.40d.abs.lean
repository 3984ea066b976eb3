/-! the tables as they are told: of each its letters and its rows; which are used; the order -/
abbrev aT : Type := List (List Nat × List Nat) × Nat × Nat
def aL (A : aT) (t : Nat) : List Nat := (A.1.getD t ([], [])).1
def aK (A : aT) (t : Nat) : List Nat := (A.1.getD t ([], [])).2
def aSet (A : aT) (t : Nat) (l : List Nat) : aT := (A.1.set t (aL A t, l), A.2)
theorem aSet_n (A : aT) (t : Nat) (l : List Nat) : (aSet A t l).1.length = A.1.length := List.length_set
theorem aSet_g {A : aT} {t : Nat} {l : List Nat} (t' : Nat) (ht : t < A.1.length) : (aSet A t l).1.getD t' ([], []) = if t' = t then (aL A t, l) else A.1.getD t' ([], []) := by
  unfold aSet
  rw [List.getD_eq_getElem?_getD, List.getElem?_set]
  by_cases c : t = t'
  · subst c
    rw [if_pos rfl, if_pos rfl, if_pos ht]; rfl
  · rw [if_neg c, if_neg (fun z => c z.symm), List.getD_eq_getElem?_getD]
theorem aSet_L {A : aT} {t : Nat} {l : List Nat} (t' : Nat) (ht : t < A.1.length) : aL (aSet A t l) t' = aL A t' := by
  unfold aL
  rw [aSet_g t' ht]
  by_cases c : t' = t
  · rw [if_pos c, c]; rfl
  · rw [if_neg c]
theorem aSet_K {A : aT} {t : Nat} {l : List Nat} (t' : Nat) (ht : t < A.1.length) : aK (aSet A t l) t' = if t' = t then l else aK A t' := by
  unfold aK
  rw [aSet_g t' ht]
  by_cases c : t' = t
  · rw [if_pos c, if_pos c]
  · rw [if_neg c, if_neg c]
/-- a table as it can be -/
def wfT (A : aT) (t : Nat) : Prop := (1 ≤ (aL A t).length ∧ (aL A t).length ≤ 3) ∧ (∀ c, c < (aL A t).length → (aL A t).getD c 0 < 4) ∧ (∀ c d, c < d → d < (aL A t).length → (aL A t).getD c 0 ≠ (aL A t).getD d 0) ∧ (aK A t).length ≤ 12 ∧ srt (aK A t) ∧ ∀ i, i < (aK A t).length → kOK (aL A t).length ((aK A t).getD i 0)
def WF (A : aT) : Prop := A.1.length ≤ 4 ∧ A.2.1 < 2 ^ A.1.length ∧ (0 < A.1.length → 0 < A.2.1) ∧ A.2.2 < 24 ∧ ∀ t, t < A.1.length → wfT A t
/-- the class's tables at cell k -/
def CT (I : gM) (k : Nat) (A : aT) : Prop := I k 0 = nI A.1.length ∧ I k 1 = nI A.2.1 ∧ I k 2 = nI A.2.2 ∧ ∀ t, t < A.1.length → I (k + 1) t = nI (aL A t).length ∧ (∀ c, c < (aL A t).length → I (k + 3) (3 * t + c) = nI ((aL A t).getD c 0)) ∧ CTt I k t (aK A t)
/-- the reference's, of which the rows lie in w -/
def RT (I : gM) (w : Nat → Int32) (A : aT) : Prop := I 62 17 = nI A.1.length ∧ w 0 = nI A.2.1 ∧ w 1 = nI A.2.2 ∧ ∀ t, t < A.1.length → I 72 t = nI (aL A t).length ∧ (∀ c, c < (aL A t).length → I 73 (3 * t + c) = nI ((aL A t).getD c 0)) ∧ RTt w t (aL A t).length (aK A t)
theorem CT.cong {I r : gM} {k : Nat} {A : aT} (h : CT I k A) (h0 : ∀ j, j < 3 → r k j = I k j) (h1 : r (k + 1) = I (k + 1)) (h2 : r (k + 2) = I (k + 2)) (h3 : r (k + 3) = I (k + 3)) (h4 : r (k + 4) = I (k + 4)) : CT r k A :=
  ⟨by rw [h0 0 (by omega)]; exact h.1, by rw [h0 1 (by omega)]; exact h.2.1, by rw [h0 2 (by omega)]; exact h.2.2.1, fun t ht => ⟨by rw [h1]; exact (h.2.2.2 t ht).1, fun c hc => by rw [h3]; exact (h.2.2.2 t ht).2.1 c hc, (h.2.2.2 t ht).2.2.cong (by rw [h2]) (fun _ _ => by rw [h4])⟩⟩
theorem RT.cong {I r : gM} {w w' : Nat → Int32} {A : aT} (h : RT I w A) (h17 : r 62 17 = I 62 17) (h72 : r 72 = I 72) (h73 : r 73 = I 73) (hn : A.1.length ≤ 4) (hk : ∀ t, t < A.1.length → (aK A t).length ≤ 12) (hw : ∀ x, x < 150 → w' x = w x) : RT r w' A :=
  ⟨by rw [h17]; exact h.1, by rw [hw 0 (by omega)]; exact h.2.1, by rw [hw 1 (by omega)]; exact h.2.2.1, fun t ht => ⟨by rw [h72]; exact (h.2.2.2 t ht).1, fun c hc => by rw [h73]; exact (h.2.2.2 t ht).2.1 c hc, (h.2.2.2 t ht).2.2.cong (hw _ (by omega)) (fun i hi c hc => hw _ (by have := hk t ht; omega))⟩⟩
/-- an act on the tables -/
def ActA (A : aT) (s a x y z : Int32) (A' : aT) : Prop :=
  (s = 0 ∧ ∃ t i, t < A.1.length ∧ a = nI t ∧ (aK A t).length ≤ 11 ∧ rowOK (aL A t).length x y z ∧ posK (kyz x y z) (aK A t) i ∧ ¬ (i < (aK A t).length ∧ (aK A t).getD i 0 = kyz x y z) ∧ A' = aSet A t (insA i (kyz x y z) (aK A t))) ∨
  (s = 1 ∧ ∃ t i, t < A.1.length ∧ a = nI t ∧ rowOK (aL A t).length x y z ∧ i < (aK A t).length ∧ (aK A t).getD i 0 = kyz x y z ∧ A' = aSet A t (delA i (aK A t))) ∨
  (s = 2 ∧ ∃ t, t < A.1.length ∧ a = nI t ∧ A.2.1 ≠ 2 ^ t ∧ A' = (A.1, A.2.1 ^^^ 2 ^ t, A.2.2)) ∨
  (¬ s = 0 ∧ ¬ s = 1 ∧ ¬ s = 2 ∧ ∃ o, o < 24 ∧ a = nI o ∧ A.2.2 ≠ o ∧ 0 < A.1.length ∧ A' = (A.1, A.2.1, o))
theorem wfT.set {A : aT} {t : Nat} {l : List Nat} (ht : t < A.1.length) (h : wfT A t) (hl : l.length ≤ 12) (hs : srt l) (hk : ∀ i, i < l.length → kOK (aL A t).length (l.getD i 0)) : wfT (aSet A t l) t := by
  unfold wfT
  rw [aSet_L t ht, aSet_K t ht, if_pos rfl]
  exact ⟨h.1, h.2.1, h.2.2.1, hl, hs, hk⟩
theorem wfT.ne {A : aT} {t t' : Nat} {l : List Nat} (ht : t < A.1.length) (hne : t' ≠ t) (h : wfT A t') : wfT (aSet A t l) t' := by
  unfold wfT
  rw [aSet_L t' ht, aSet_K t' ht, if_neg hne]
  exact h
theorem WF.set {A : aT} {t : Nat} {l : List Nat} (h : WF A) (ht : t < A.1.length) (hl : l.length ≤ 12) (hs : srt l) (hk : ∀ i, i < l.length → kOK (aL A t).length (l.getD i 0)) : WF (aSet A t l) := by
  unfold WF
  rw [aSet_n]
  refine ⟨h.1, h.2.1, h.2.2.1, h.2.2.2.1, fun t' ht' => ?_⟩
  by_cases c : t' = t
  · subst c; exact (h.2.2.2.2 t' ht').set ht hl hs hk
  · exact (h.2.2.2.2 t' ht').ne ht c
theorem xor_lt {u t n : Nat} (hu : u < 2 ^ n) (ht : t < n) : u ^^^ 2 ^ t < 2 ^ n := Nat.xor_lt_two_pow hu (Nat.pow_lt_pow_right (by decide) ht)
theorem WF.act {A A' : aT} {s a x y z : Int32} (h : WF A) (ha : ActA A s a x y z A') : WF A' := by
  rcases ha with ⟨_, t, i, ht, _, hl, hr, hp, hne, rfl⟩ | ⟨_, t, i, ht, _, hr, hi, hq, rfl⟩ | ⟨_, t, ht, _, hu, rfl⟩ | ⟨_, _, _, o, ho, _, _, _, rfl⟩
  · obtain ⟨_, _, _, w4, w5, w6⟩ := h.2.2.2.2 t ht
    exact h.set ht (by rw [insA_len]; omega) (srt_ins w5 hp hne) (insA_all (row_k hr).1 w6 hp.1)
  · obtain ⟨_, _, _, w4, w5, w6⟩ := h.2.2.2.2 t ht
    exact h.set ht (by rw [delA_len hi]; omega) (srt_del w5 hi) (delA_all w6 hi)
  · refine ⟨h.1, xor_lt h.2.1 ht, fun _ => ?_, h.2.2.2.1, h.2.2.2.2⟩
    rcases Nat.eq_zero_or_pos (A.2.1 ^^^ 2 ^ t) with z | z
    · refine absurd ?_ hu
      have e : A.2.1 = (A.2.1 ^^^ 2 ^ t) ^^^ 2 ^ t := by rw [Nat.xor_assoc, Nat.xor_self, Nat.xor_zero]
      rw [e, z, Nat.zero_xor]
    · exact z
  · exact ⟨h.1, h.2.1, h.2.2.1, ho, h.2.2.2.2⟩
theorem one_shl : ∀ t, t < 4 → (1 : Int32) <<< (nI t &&& 31) = nI (2 ^ t) := by decide
theorem xor_nI : ∀ u, u < 16 → ∀ t, t < 4 → nI u ^^^ nI (2 ^ t) = nI (u ^^^ 2 ^ t) := by decide +kernel
theorem WF.u {A : aT} (h : WF A) : A.2.1 < 16 := Nat.lt_of_lt_of_le h.2.1 (Nat.pow_le_pow_right (n := 2) (by decide) h.1)
/-- the reference's act, as an act on the tables -/
theorem act_abs {I : gM} {w w' : Nat → Int32} {A : aT} {s a x y z : Int32} (hW : WF A) (hR : RT I w A) (h : Act9 A.1.length (I 72) w s a x y z w') : ∃ A', ActA A s a x y z A' ∧ RT I w' A' ∧ ∀ j, 150 ≤ j → w' j = w j := by
  have hu := hW.u
  have hn4 := hW.1
  have wd : ∀ t, t < A.1.length → (I 72 t).toInt.toNat = (aL A t).length := fun t ht => by
    have := (hW.2.2.2.2 t ht).1
    rw [(hR.2.2.2 t ht).1, nIt (by omega)]
  have same : ∀ (t : Nat) (l : List Nat) (w' : Nat → Int32), t < A.1.length → RTt w' t (aL A t).length l → (∀ t', t' ≠ t → t' < 4 → ∀ wd' ks', ks'.length ≤ 12 → RTt w t' wd' ks' → RTt w' t' wd' ks') → (∀ j, j < 2 ∨ 150 ≤ j → w' j = w j) → RT I w' (aSet A t l) := by
    intro t l w' ht h1 h2 h3
    refine ⟨by rw [aSet_n]; exact hR.1, by rw [h3 0 (by omega)]; exact hR.2.1, by rw [h3 1 (by omega)]; exact hR.2.2.1, fun t' ht' => ?_⟩
    rw [aSet_n] at ht'
    obtain ⟨q1, q2, q3⟩ := hR.2.2.2 t' ht'
    rw [aSet_L t' ht, aSet_K t' ht]
    refine ⟨q1, q2, ?_⟩
    by_cases c : t' = t
    · rw [if_pos c, c]; exact h1
    · rw [if_neg c]; exact h2 t' c (by omega) _ _ (hW.2.2.2.2 t' ht').2.2.2.1 q3
  rcases h with ⟨hs, t, m, i, ht, ha, hm, em, hr, hc, hne, rfl⟩ | ⟨hs, t, m, i, ht, ha, hm, em, hr, hc, hi, h0, rfl⟩ | ⟨hs, t, ht, ha, hne, rfl⟩ | ⟨h0, h1, h2, o, ho, ha, hne, hpos, rfl⟩
  · obtain ⟨w1, _, _, w4, w5, w6⟩ := hW.2.2.2.2 t ht
    have hRt := (hR.2.2.2 t ht).2.2
    have : m = (aK A t).length := nI_inj (em.symm.trans hRt.1) (by omega) (by omega)
    subst this
    rw [wd t ht] at hr
    obtain ⟨p1, p2⟩ := cl_pos hRt w1.1 w6 w5 hr hc
    obtain ⟨g1, g2, g3⟩ := insW_R (by omega) hm p1.1 hRt w1.1 hr
    exact ⟨_, Or.inl ⟨hs, t, i, ht, ha, hm, hr, p1, fun q => hne (p2.mpr q), rfl⟩, same t _ _ ht g1 g2 g3, fun j hj => g3 j (Or.inr hj)⟩
  · obtain ⟨w1, _, _, w4, w5, w6⟩ := hW.2.2.2.2 t ht
    have hRt := (hR.2.2.2 t ht).2.2
    have : m = (aK A t).length := nI_inj (em.symm.trans hRt.1) (by omega) (by omega)
    subst this
    rw [wd t ht] at hr
    obtain ⟨p1, p2⟩ := cl_pos hRt w1.1 w6 w5 hr hc
    obtain ⟨g1, g2, g3⟩ := delW_R (by omega) w4 hi hRt
    exact ⟨_, Or.inr (Or.inl ⟨hs, t, i, ht, ha, hr, hi, (p2.mp ⟨hi, h0⟩).2, rfl⟩), same t _ _ ht g1 g2 g3, fun j hj => g3 j (Or.inr hj)⟩
  · rw [one_shl t (by omega), hR.2.1] at hne
    refine ⟨_, Or.inr (Or.inr (Or.inl ⟨hs, t, ht, ha, fun z => hne (by rw [z]), rfl⟩)), ⟨hR.1, ?_, hR.2.2.1, fun t' ht' => ⟨(hR.2.2.2 t' ht').1, (hR.2.2.2 t' ht').2.1, (hR.2.2.2 t' ht').2.2.cong (by rw [if_neg (by omega)]) (fun j hj c hc => by rw [if_neg (by omega)])⟩⟩, fun j hj => by dsimp only; rw [if_neg (by omega)]⟩
    dsimp only
    rw [if_pos rfl, hR.2.1, one_shl t (by omega), xor_nI _ hu t (by omega)]
  · rw [hR.2.2.1, ha] at hne
    refine ⟨_, Or.inr (Or.inr (Or.inr ⟨h0, h1, h2, o, ho, ha, fun z => hne (by rw [z]), hpos, rfl⟩)), ⟨hR.1, hR.2.1, ?_, fun t' ht' => ⟨(hR.2.2.2 t' ht').1, (hR.2.2.2 t' ht').2.1, (hR.2.2.2 t' ht').2.2.cong (by rw [if_neg (by omega)]) (fun j hj c hc => by rw [if_neg (by omega)])⟩⟩, fun j hj => by dsimp only; rw [if_neg (by omega)]⟩
    dsimp only
    rw [if_pos rfl, ha]
