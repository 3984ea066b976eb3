/-! the reference: acts -/
/-- a table's numbers are there -/
def okW (n : Nat) (wd w : Nat → Int32) : Prop := ∀ t, t < n → ∀ i, i < (w (2 + t)).toInt.toNat → ∀ c, c < (wd t).toInt.toNat → 0 ≤ (w (6 + 3 * (12 * t + i) + c)).toInt
theorem rW.m {w : Nat → Int32} (h : rW w) {t : Nat} (ht : t < 4) : 0 ≤ (w (2 + t)).toInt ∧ (w (2 + t)).toInt ≤ 12 := by
  have := h (2 + t)
  rw [rgN_m ht] at this; exact this
theorem okW.cong {n : Nat} {wd w w' : Nat → Int32} (h : okW n wd w) (hn : n ≤ 4) (hw : rW w) (hd : ∀ t, t < 4 → (wd t).toInt ≤ 3) (he : ∀ x, 2 ≤ x → x < 150 → w' x = w x) : okW n wd w' := by
  intro t ht i hi c hc
  rw [he _ (by omega) (by omega)] at hi
  have := hw.m (t := t) (by omega)
  have := hd t (by omega)
  rw [he _ (by omega) (by omega)]
  exact h t ht i hi c hc
theorem okW.act {n : Nat} {wd w w' : Nat → Int32} {s a x y z : Int32} (h : okW n wd w) (hn : n ≤ 4) (hw : rW w) (hd : ∀ t, t < 4 → (wd t).toInt ≤ 3) (ha : Act9 n wd w s a x y z w') : okW n wd w' := by
  rcases ha with ⟨_, t, m, i, h1, h2, h3, h4, h5, h6, h7, rfl⟩ | ⟨_, t, m, i, h1, h2, h3, h4, h5, h6, h7, h8, rfl⟩ | ⟨_, t, h1, h2, h3, rfl⟩ | ⟨_, _, _, o, h1, h2, h3, h4, rfl⟩
  · have i1 := h6.1
    obtain ⟨r1, r2, r3⟩ := h5
    intro t' ht' i' hi' c hc
    have d1 := hd t' (by omega)
    have m1 := hw.m (t := t') (by omega)
    by_cases e : t' = t
    · subst e
      have hi2 : i' < m + 1 := by
        unfold insW at hi'
        rw [if_pos rfl, nIt (by omega)] at hi'; exact hi'
      rcases (by omega : i' < i ∨ i' = i ∨ i < i') with u | u | u
      · rw [show insW w t' m i x y z (6 + 3 * (12 * t' + i') + c) = w (6 + 3 * (12 * t' + i') + c) by
          unfold insW
          rw [if_neg (by omega), if_neg (by omega), if_neg (by omega), if_neg (by omega), if_neg (by omega)]]
        exact h t' h1 i' (by rw [h4, nIt (by omega)]; omega) c hc
      · subst u
        rcases (by omega : c = 0 ∨ c = 1 ∨ c = 2) with v | v | v
        · subst v
          rw [show insW w t' m i' x y z (6 + 3 * (12 * t' + i') + 0) = x by
            unfold insW
            rw [if_neg (by omega), if_pos (by omega)]]
          exact r1.1
        · subst v
          rw [show insW w t' m i' x y z (6 + 3 * (12 * t' + i') + 1) = y by
            unfold insW
            rw [if_neg (by omega), if_neg (by omega), if_pos (by omega)]]
          exact (r2.1 hc).1
        · subst v
          rw [show insW w t' m i' x y z (6 + 3 * (12 * t' + i') + 2) = z by
            unfold insW
            rw [if_neg (by omega), if_neg (by omega), if_neg (by omega), if_pos (by omega)]]
          exact (r3.1 hc).1
      · rw [show insW w t' m i x y z (6 + 3 * (12 * t' + i') + c) = w (6 + 3 * (12 * t' + (i' - 1)) + c) by
          unfold insW
          rw [if_neg (by omega), if_neg (by omega), if_neg (by omega), if_neg (by omega), if_pos (by omega), show 6 + 3 * (12 * t' + i') + c - 3 = 6 + 3 * (12 * t' + (i' - 1)) + c by omega]]
        exact h t' h1 (i' - 1) (by rw [h4, nIt (by omega)]; omega) c hc
    · have em : insW w t m i x y z (2 + t') = w (2 + t') := by
        unfold insW
        rw [if_neg (by omega), if_neg (by omega), if_neg (by omega), if_neg (by omega), if_neg (by omega)]
      rw [em] at hi'
      rw [show insW w t m i x y z (6 + 3 * (12 * t' + i') + c) = w (6 + 3 * (12 * t' + i') + c) by
        unfold insW
        rw [if_neg (by omega), if_neg (by omega), if_neg (by omega), if_neg (by omega), if_neg (by omega)]]
      exact h t' ht' i' hi' c hc
  · intro t' ht' i' hi' c hc
    have d1 := hd t' (by omega)
    have m1 := hw.m (t := t') (by omega)
    by_cases e : t' = t
    · subst e
      have hi2 : i' < m - 1 := by
        unfold delW at hi'
        rw [if_pos rfl, nIt (by omega)] at hi'; exact hi'
      by_cases u : i' < i
      · rw [show delW w t' m i (6 + 3 * (12 * t' + i') + c) = w (6 + 3 * (12 * t' + i') + c) by
          unfold delW
          rw [if_neg (by omega), if_neg (by omega)]]
        exact h t' h1 i' (by rw [h4, nIt (by omega)]; omega) c hc
      · rw [show delW w t' m i (6 + 3 * (12 * t' + i') + c) = w (6 + 3 * (12 * t' + (i' + 1)) + c) by
          unfold delW
          rw [if_neg (by omega), if_pos (by omega), show 6 + 3 * (12 * t' + i') + c + 3 = 6 + 3 * (12 * t' + (i' + 1)) + c by omega]]
        exact h t' h1 (i' + 1) (by rw [h4, nIt (by omega)]; omega) c hc
    · have em : delW w t m i (2 + t') = w (2 + t') := by
        unfold delW
        rw [if_neg (by omega), if_neg (by omega)]
      rw [em] at hi'
      rw [show delW w t m i (6 + 3 * (12 * t' + i') + c) = w (6 + 3 * (12 * t' + i') + c) by
        unfold delW
        rw [if_neg (by omega), if_neg (by omega)]]
      exact h t' ht' i' hi' c hc
  · exact h.cong hn hw hd (fun x h1 h2 => by rw [if_neg (by omega)])
  · exact h.cong hn hw hd (fun x h1 h2 => by rw [if_neg (by omega)])
/-- all states that are kept have their numbers -/
def A9 (I : gM) : Prop := okW (I 62 17).toInt.toNat (I 72) (I 70) ∧ (∀ a, a < (I 62 29).toInt.toNat → okW (I 62 17).toInt.toNat (I 72) (fun x => I 81 (331 * a + x))) ∧ (I 62 42 ≠ 0 → okW (I 62 17).toInt.toNat (I 72) (I 89))
theorem A9.same {I r : gM} (h : A9 I) (h17 : r 62 17 = I 62 17) (h29 : r 62 29 = I 62 29) (h42 : r 62 42 = I 62 42) (hk : ∀ k, k = 70 ∨ k = 72 ∨ k = 81 ∨ k = 89 → r k = I k) : A9 r := by
  unfold A9
  rw [h17, h29, h42, hk 70 (by omega), hk 72 (by omega), hk 81 (by omega), hk 89 (by omega)]
  exact h
theorem MI.wd {I0 I : gM} (h : MI false I0 I) : ∀ t, t < 4 → (I 72 t).toInt ≤ 3 := fun t _ => (h.at (k := 72) (j := t) (lo := 0) (hi := 3) rfl).2
theorem MI.tn {I0 I : gM} (h : MI false I0 I) : ∃ n, n ≤ 4 ∧ I 62 17 = nI n := h.n (k := 62) (j := 17) (hi := 4) rfl
theorem n_rowsNow {I0 I : gM} (hM : MI false I0 I) : ∃ r, fX9_joinsNow I = some r ∧ fX9_rowsNow I = some (r 62 26, r) ∧ MI false I0 r ∧ GJ9 r ∧ (∀ k, k ≠ 62 → k ≠ 74 → k ≠ 75 → k ≠ 76 → k ≠ 77 → k ≠ 78 → k ≠ 79 → k ≠ 80 → r k = I k) ∧ ∀ j, j ≠ 19 → j ≠ 26 → j ≠ 27 → r 62 j = I 62 j := by
  obtain ⟨r, e, h1, h2⟩ := tfX9_joinsNow I hM
  refine ⟨r, e, ?_, h1, h2, fun k y1 y2 y3 y4 y5 y6 y7 y8 => ?_, fun j y1 y2 y3 => ?_⟩
  · unfold fX9_rowsNow
    rw [e, obs]
  · exact zfX9_joinsNow I e k (by omega) (by omega) (by omega) (by omega) (by omega) (by omega) (by omega) (by omega)
  · exact xfX9_joinsNow I e 62 j (Or.inr y1) (by omega) (Or.inr y2) (Or.inr y3) (by omega) (by omega) (by omega) (by omega) (by omega) (by omega)
/-- a line more in the log -/
def lg9 (w : Nat → Int32) (L : Nat) (s a v : Int32) : Nat → Int32 := fun x =>
  if x = 150 then nI ((if L = 60 then 59 else L) + 1) else if x = 151 + 3 * (if L = 60 then 59 else L) + 2 then v else if x = 151 + 3 * (if L = 60 then 59 else L) + 1 then a else if x = 151 + 3 * (if L = 60 then 59 else L) then s else if L = 60 ∧ 151 ≤ x ∧ x < 328 then w (x + 3) else w x
theorem n_note {I0 I : gM} (hM : MI false I0 I) {L : Nat} (hL : L ≤ 60) (e : I 70 150 = nI L) (s a : Int32) : ∃ I9 rj r, fX9_rowsNow I9 = some (rj 62 26, rj) ∧ fX9_joinsNow I9 = some rj ∧ MI false I0 I9 ∧ MI false I0 rj ∧ fX9_note s a I = some r ∧ MI false I0 r ∧ (∀ k, k ≠ 70 → I9 k = I k) ∧ (∀ x, x < 150 → I9 70 x = I 70 x) ∧ (∀ k, k ≠ 70 → r k = rj k) ∧ r 70 = lg9 (I 70) L s a (rj 62 26) := by
  have tail : ∀ (I1 : gM) (L1 : Nat), L1 ≤ 59 → MI false I0 I1 → I1 70 150 = nI L1 → ∃ I9 rj r, fX9_rowsNow I9 = some (rj 62 26, rj) ∧ fX9_joinsNow I9 = some rj ∧ MI false I0 I9 ∧ MI false I0 rj ∧ bX9_note_62 s a I1 = some r ∧ MI false I0 r ∧ (∀ k, k ≠ 70 → I9 k = I1 k) ∧ (∀ x, x < 150 → I9 70 x = I1 70 x) ∧ (∀ k, k ≠ 70 → r k = rj k) ∧ ∀ x, r 70 x = if x = 150 then nI (L1 + 1) else if x = 151 + 3 * L1 + 2 then rj 62 26 else if x = 151 + 3 * L1 + 1 then a else if x = 151 + 3 * L1 then s else I1 70 x := fun I1 L1 h1 M1 e1 => by
    have M9 : MI false I0 (g_up (g_up I1 70 (151 + 3 * L1) s) 70 (151 + 3 * L1 + 1) a) := (M1.up (k := 70) rfl (lo := -2147483648) (hi := 2147483647) (rgN_t (by omega)) (tTop _).1 (tTop _).2).up (k := 70) rfl (lo := -2147483648) (hi := 2147483647) (rgN_t (by omega)) (tTop _).1 (tTop _).2
    obtain ⟨rj, j1, j2, j3, j4, j5, j6⟩ := n_rowsNow M9
    have q70 : rj 70 = g_up (g_up I1 70 (151 + 3 * L1) s) 70 (151 + 3 * L1 + 1) a 70 := j5 70 (by omega) (by omega) (by omega) (by omega) (by omega) (by omega) (by omega) (by omega)
    have v150 : g_up rj 70 (151 + 3 * L1 + 2) (rj 62 26) 70 150 = nI L1 := by
      rw [g_up_ne (Or.inr (by omega)), q70, g_up_ne (Or.inr (by omega)), g_up_ne (Or.inr (by omega)), e1]
    refine ⟨_, rj, g_up (g_up rj 70 (151 + 3 * L1 + 2) (rj 62 26)) 70 150 (nI (L1 + 1)), j2, j1, M9, j3, ?_, (j3.up (k := 70) rfl (lo := -2147483648) (hi := 2147483647) (rgN_t (by omega)) (tTop _).1 (tTop _).2).up (k := 70) (j := 150) rfl (lo := 0) (hi := 60) rfl (by rw [tnI (by omega)]; omega) (by rw [tnI (by omega)]; omega), fun k hk => by rw [g_up_row hk, g_up_row hk], fun x hx => by rw [g_up_ne (Or.inr (by omega)), g_up_ne (Or.inr (by omega))], fun k hk => by rw [g_up_row hk, g_up_row hk], fun x => ?_⟩
    · have a151 : (151 : Int32) + (3 : Int32) * nI L1 = nI (151 + 3 * L1) := by rw [L151, L3, nI_mul, nI_add]
      unfold bX9_note_62
      rw [show rI 331 (I1 70) 150 = some (I1 70 150) from rI_n (a := 150) (by omega) (by omega), obs, e1, a151, wI_n (by omega) (by omega), obs, nI_1, wI_n (by omega) (by omega), obs, j2, obs]
      dsimp only
      rw [show nI (151 + 3 * L1) + 2 = nI (151 + 3 * L1 + 2) from nI_add _ 2, wI_n (by omega) (by omega), obs, show rI 331 (g_up rj 70 (151 + 3 * L1 + 2) (rj 62 26) 70) 150 = some _ from rI_n (a := 150) (by omega) (by omega), obs, v150, nI_1, show ∀ v, wI (g_up rj 70 (151 + 3 * L1 + 2) (rj 62 26)) 70 331 150 v = some _ from fun v => wI_n (a := 150) (by omega) (by omega), obs]
    · rw [gu_in, gu_in, q70, gu_in, gu_in]
  unfold fX9_note
  rw [show rI 331 (I 70) 150 = some (I 70 150) from rI_n (a := 150) (by omega) (by omega), obs]
  by_cases c : L = 60
  · subst c
    rw [if_pos (show I 70 150 = (60 : Int32) from e)]
    obtain ⟨w, ew, w1, w2, w3⟩ := n_note15 hM
    have w150 : w 70 150 = nI 60 := by rw [w2, if_neg (by omega), e]
    obtain ⟨I9, rj, r, k1, k2, k3, k4, k5, k6, k7, k8, k9, k10⟩ := tail (g_up w 70 150 (nI 59)) 59 (by omega) (w1.up (k := 70) (j := 150) rfl (lo := 0) (hi := 60) rfl (by decide) (by decide)) g_up_self
    refine ⟨I9, rj, r, k1, k2, k3, k4, ?_, k6, fun k hk => by rw [k7 k hk, g_up_row hk, w3 k hk], fun x hx => by rw [k8 x hx, g_up_ne (Or.inr (by omega)), w2, if_neg (by omega)], k9, ?_⟩
    · rw [show ((3 : Int32), I) = (nI 3, I) from rfl, ew, obs, show rI 331 (w 70) 150 = some (w 70 150) from rI_n (a := 150) (by omega) (by omega), obs, w150, show nI 60 - 1 = nI 59 from rfl, show wI w 70 331 150 (nI 59) = some _ from wI_n (a := 150) (by omega) (by omega), obs, k5]
    · funext x
      rw [k10]
      unfold lg9
      rw [if_pos rfl]
      by_cases c1 : x = 150
      · rw [if_pos c1, if_pos c1]
      · rw [if_neg c1, if_neg c1, g_up_ne (Or.inr c1), w2]
        by_cases c2 : 151 ≤ x ∧ x < 328
        · rw [if_pos c2, if_pos (show 60 = 60 ∧ 151 ≤ x ∧ x < 328 from ⟨rfl, c2⟩)]
        · rw [if_neg c2, if_neg (show ¬ (60 = 60 ∧ 151 ≤ x ∧ x < 328) from fun q => c2 q.2)]
  · rw [if_neg (show ¬ I 70 150 = (60 : Int32) from fun q => c (nI_inj (b := 60) (e.symm.trans q) (by omega) (by omega)))]
    obtain ⟨I9, rj, r, k1, k2, k3, k4, k5, k6, k7, k8, k9, k10⟩ := tail I L (by omega) hM e
    refine ⟨I9, rj, r, k1, k2, k3, k4, k5, k6, k7, k8, k9, ?_⟩
    funext x
    rw [k10]
    unfold lg9
    rw [if_neg c, if_neg (show ¬ (L = 60 ∧ 151 ≤ x ∧ x < 328) from fun q => c q.1)]
/-- an act as a whole -/
theorem n_act {I0 I : gM} (hM : MI false I0 I) (hA : A9 I) {n A L : Nat} (hn : n ≤ 4) (en : I 62 17 = nI n) (hA4 : A ≤ 40) (eA : I 62 29 = nI A) (hL : L ≤ 60) (eL : I 70 150 = nI L) {s a x y z : Int32} {w' : Nat → Int32} (h : Act9 n (I 72) (I 70) s a x y z w') : ∃ I9 rj v r, fX9_joinsNow I9 = some rj ∧ MI false I0 I9 ∧ fX9_act s a x y z I = some (v, r) ∧ MI false I0 r ∧ A9 r ∧ (∀ k, k ≠ 62 → k ≠ 70 → k ≠ 81 → I9 k = I k) ∧ (∀ j, j ≠ 29 → I9 62 j = I 62 j) ∧ (∀ x, x < 150 → I9 70 x = w' x) ∧ (∀ k, k ≠ 70 → r k = rj k) ∧ r 70 = lg9 w' L s a (rj 62 26) ∧ r 81 = kp9 A (I 81) (I 70) ∧ r 62 29 = nI (if A = 40 then 40 else A + 1) ∧ (∀ j, j ≠ 19 → j ≠ 26 → j ≠ 27 → j ≠ 29 → r 62 j = I 62 j) ∧ (∀ k, k ≠ 62 → k ≠ 70 → k ≠ 74 → k ≠ 75 → k ≠ 76 → k ≠ 77 → k ≠ 78 → k ≠ 79 → k ≠ 80 → k ≠ 81 → r k = I k) ∧ (s = 0 ∨ s = 1 → ∃ t, t < n ∧ a = nI t ∧ v = w' (2 + t)) ∧ (s = 2 → ∃ t, t < n ∧ a = nI t ∧ ((hs (w' 0) t ∧ v = 1) ∨ (¬ hs (w' 0) t ∧ v = 0))) ∧ (¬ s = 0 → ¬ s = 1 → ¬ s = 2 → v = I 70 1) := by
  obtain ⟨k, ek, k1, k2, k3, k4, k5⟩ := n_keep hM hA4 eA
  have k70 : k 70 = I 70 := k5 70 (by omega) (by omega)
  have k72 : k 72 = I 72 := k5 72 (by omega) (by omega)
  have kn : k 62 17 = nI n := by rw [k4 17 (by omega)]; exact en
  obtain ⟨v, d, ed, d1, d2, d3, d4, d5, d6⟩ := n_doNow k1 hn kn (s := s) (a := a) (x := x) (y := y) (z := z) (w' := w') (by rw [k70, k72]; exact h)
  have w150 : w' 150 = I 70 150 := by
    rcases h with ⟨_, t, m, i, h1, h2, h3, h4, h5, h6, h7, rfl⟩ | ⟨_, t, m, i, h1, h2, h3, h4, h5, h6, h7, h8, rfl⟩ | ⟨_, t, h1, h2, h3, rfl⟩ | ⟨_, _, _, o, h1, h2, h3, h4, rfl⟩
    · have := h6.1
      unfold insW
      rw [if_neg (by omega), if_neg (by omega), if_neg (by omega), if_neg (by omega), if_neg (by omega)]
    · unfold delW
      rw [if_neg (by omega), if_neg (by omega)]
    · rfl
    · rfl
  obtain ⟨I9, rj, r, n1, n2, n3, n4, n5, n6, n7, n8, n9, n10⟩ := n_note d1 hL (by rw [d3, w150]; exact eL) s a
  obtain ⟨rj', j1, _, _, _, j5, j6⟩ := n_rowsNow n3
  obtain rfl : rj' = rj := Option.some.inj (j1.symm.trans n2)
  have f62 : ∀ j, j ≠ 19 → j ≠ 26 → j ≠ 27 → j ≠ 29 → r 62 j = I 62 j := fun j y1 y2 y3 y4 => by
    rw [n9 62 (by omega), j6 j y1 y2 y3, n7 62 (by omega), d2 62 (by omega), k4 j y4]
  have f29 : r 62 29 = nI (if A = 40 then 40 else A + 1) := by
    rw [n9 62 (by omega), j6 29 (by omega) (by omega) (by omega), n7 62 (by omega), d2 62 (by omega), k2]
  have fk : ∀ k', k' ≠ 62 → k' ≠ 70 → k' ≠ 74 → k' ≠ 75 → k' ≠ 76 → k' ≠ 77 → k' ≠ 78 → k' ≠ 79 → k' ≠ 80 → r k' = k k' := fun k' y1 y2 y3 y4 y5 y6 y7 y8 y9 => by
    rw [n9 k' y2, j5 k' y1 y3 y4 y5 y6 y7 y8 y9, n7 k' y2, d2 k' y2]
  have f81 : r 81 = kp9 A (I 81) (I 70) := by
    rw [fk 81 (by omega) (by omega) (by omega) (by omega) (by omega) (by omega) (by omega) (by omega) (by omega)]; exact k3
  have r70 : r 70 = lg9 w' L s a (rj' 62 26) := by rw [n10, d3]
  have hw := mi_rW hM
  have ok1 := hA.1
  rw [en, nIt (by omega)] at ok1
  refine ⟨I9, rj', v, r, n2, n3, ?_, n6, ⟨?_, fun a' ha' => ?_, fun q => ?_⟩, fun k' y1 y2 y3 => by rw [n7 k' y2, d2 k' y2, k5 k' y1 y3], fun j hj => by rw [n7 62 (by omega), d2 62 (by omega), k4 j hj], fun x hx => by rw [n8 x hx, d3], n9, r70, f81, f29, f62, fun k' y1 y2 y3 y4 y5 y6 y7 y8 y9 y10 => by rw [fk k' y1 y2 y3 y4 y5 y6 y7 y8 y9, k5 k' y1 y10], d4, d5, fun y1 y2 y3 => by rw [d6 y1 y2 y3, k70]⟩
  · unfold fX9_act
    rw [ek, obs, ed, obs, n5, obs]
  · have e72 : r 72 = I 72 := by rw [fk 72 (by omega) (by omega) (by omega) (by omega) (by omega) (by omega) (by omega) (by omega) (by omega)]; exact k72
    rw [f62 17 (by omega) (by omega) (by omega) (by omega), en, nIt (by omega), e72]
    refine (ok1.act hn hw hM.wd h).cong hn (act_rW h hn hw) hM.wd (fun x h1 h2 => ?_)
    rw [r70]
    unfold lg9
    rw [if_neg (by omega), if_neg (by omega), if_neg (by omega), if_neg (by omega), if_neg (by omega)]
  · have e72 : r 72 = I 72 := by rw [fk 72 (by omega) (by omega) (by omega) (by omega) (by omega) (by omega) (by omega) (by omega) (by omega)]; exact k72
    rw [f62 17 (by omega) (by omega) (by omega) (by omega), en, nIt (by omega), e72]
    have h2 := hA.2.1
    rw [en, nIt (by omega), eA, nIt (by omega)] at h2
    rw [f29] at ha'
    have rK : ∀ q, q < 40 → rW (fun x => I 81 (331 * q + x)) ∨ True := fun _ _ => Or.inr trivial
    have cong2 : ∀ (q : Nat) (w1 : Nat → Int32), okW n (I 72) w1 → (∀ x, x < 331 → r 81 (331 * a' + x) = w1 x) → (∀ t, t < 4 → (w1 (2 + t)).toInt ≤ 12) → okW n (I 72) (fun x => r 81 (331 * a' + x)) := fun q w1 ok he h12 => by
      intro t ht i hi c hc
      dsimp only at hi ⊢
      have h12' := h12 t (by omega)
      have hd := hM.wd t (by omega)
      rw [he _ (by omega)] at hi ⊢
      exact ok t ht i hi c hc
    have k12 : ∀ q t, t < 4 → (I 81 (331 * q + (2 + t))).toInt ≤ 12 := fun q t ht => by
      have := hM.1 81 (331 * q + (2 + t))
      rw [rg81 q (2 + t) (by omega), rgN_m ht] at this
      exact this.2
    have i12 : ∀ t, t < 4 → (I 70 (2 + t)).toInt ≤ 12 := fun t ht => (hw.m ht).2
    by_cases c : A = 40
    · rw [if_pos c, nIt (by omega)] at ha'
      by_cases c2 : a' = 39
      · refine cong2 0 (I 70) ok1 (fun x hx => ?_) i12
        rw [f81]
        unfold kp9
        rw [if_pos c, if_pos (by omega), show 331 * a' + x - 12909 = x by omega]
      · refine cong2 0 (fun x => I 81 (331 * (a' + 1) + x)) (h2 (a' + 1) (by omega)) (fun x hx => ?_) (fun t ht => k12 _ t ht)
        rw [f81]
        unfold kp9
        rw [if_pos c, if_neg (by omega), if_pos (by omega), show 331 * a' + x + 331 = 331 * (a' + 1) + x by omega]
    · rw [if_neg c, nIt (by omega)] at ha'
      by_cases c2 : a' = A
      · refine cong2 0 (I 70) ok1 (fun x hx => ?_) i12
        rw [f81]
        unfold kp9
        rw [if_neg c, if_pos (by omega), show 331 * a' + x - 331 * A = x by omega]
      · refine cong2 0 (fun x => I 81 (331 * a' + x)) (h2 a' (by omega)) (fun x hx => ?_) (fun t ht => k12 _ t ht)
        rw [f81]
        unfold kp9
        rw [if_neg c, if_neg (by omega)]
  · have e72 : r 72 = I 72 := by rw [fk 72 (by omega) (by omega) (by omega) (by omega) (by omega) (by omega) (by omega) (by omega) (by omega)]; exact k72
    rw [f62 17 (by omega) (by omega) (by omega) (by omega), e72, fk 89 (by omega) (by omega) (by omega) (by omega) (by omega) (by omega) (by omega) (by omega) (by omega), k5 89 (by omega) (by omega)]
    exact hA.2.2 (by rw [← f62 42 (by omega) (by omega) (by omega) (by omega)]; exact q)
