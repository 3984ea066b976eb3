section P_29c_act9
/-! the reference: acts -/
/-- a table's numbers are there -/
def okW (n : Nat) (wd w : Nat → Int32) : Prop := ∀ t, t < n → ∀ i, i < (w (2 + t)).toInt.toNat → ∀ c, c < (wd t).toInt.toNat → 0 ≤ (w (6 + 3 * (12 * t + i) + c)).toInt
theorem rW.m {w : Nat → Int32} (h : rW w) {t : Nat} (ht : t < 4) : 0 ≤ (w (2 + t)).toInt ∧ (w (2 + t)).toInt ≤ 12 := by
  have := h (2 + t)
  rw [rgN_m ht] at this; exact this
theorem okW.cong {n : Nat} {wd w w' : Nat → Int32} (h : okW n wd w) (hn : n ≤ 4) (hw : rW w) (hd : ∀ t, t < 4 → (wd t).toInt ≤ 3) (he : ∀ x, 2 ≤ x → x < 150 → w' x = w x) : okW n wd w' := by
  intro t ht i hi c hc
  rw [he _ (by omega) (by omega)] at hi
  have := hw.m (t := t) (by omega)
  have := hd t (by omega)
  rw [he _ (by omega) (by omega)]
  exact h t ht i hi c hc
theorem okW.act {n : Nat} {wd w w' : Nat → Int32} {s a x y z : Int32} (h : okW n wd w) (hn : n ≤ 4) (hw : rW w) (hd : ∀ t, t < 4 → (wd t).toInt ≤ 3) (ha : Act9 n wd w s a x y z w') : okW n wd w' := by
  rcases ha with ⟨_, t, m, i, h1, h2, h3, h4, h5, h6, h7, rfl⟩ | ⟨_, t, m, i, h1, h2, h3, h4, h5, h6, h7, h8, rfl⟩ | ⟨_, t, h1, h2, h3, rfl⟩ | ⟨_, _, _, o, h1, h2, h3, h4, rfl⟩
  · have i1 := h6.1
    obtain ⟨r1, r2, r3⟩ := h5
    intro t' ht' i' hi' c hc
    have d1 := hd t' (by omega)
    have m1 := hw.m (t := t') (by omega)
    by_cases e : t' = t
    · subst e
      have hi2 : i' < m + 1 := by
        unfold insW at hi'
        rw [if_pos rfl, nIt (by omega)] at hi'; exact hi'
      rcases (by omega : i' < i ∨ i' = i ∨ i < i') with u | u | u
      · rw [show insW w t' m i x y z (6 + 3 * (12 * t' + i') + c) = w (6 + 3 * (12 * t' + i') + c) by
          unfold insW
          rw [if_neg (by omega), if_neg (by omega), if_neg (by omega), if_neg (by omega), if_neg (by omega)]]
        exact h t' h1 i' (by rw [h4, nIt (by omega)]; omega) c hc
      · subst u
        rcases (by omega : c = 0 ∨ c = 1 ∨ c = 2) with v | v | v
        · subst v
          rw [show insW w t' m i' x y z (6 + 3 * (12 * t' + i') + 0) = x by
            unfold insW
            rw [if_neg (by omega), if_pos (by omega)]]
          exact r1.1
        · subst v
          rw [show insW w t' m i' x y z (6 + 3 * (12 * t' + i') + 1) = y by
            unfold insW
            rw [if_neg (by omega), if_neg (by omega), if_pos (by omega)]]
          exact (r2.1 hc).1
        · subst v
          rw [show insW w t' m i' x y z (6 + 3 * (12 * t' + i') + 2) = z by
            unfold insW
            rw [if_neg (by omega), if_neg (by omega), if_neg (by omega), if_pos (by omega)]]
          exact (r3.1 hc).1
      · rw [show insW w t' m i x y z (6 + 3 * (12 * t' + i') + c) = w (6 + 3 * (12 * t' + (i' - 1)) + c) by
          unfold insW
          rw [if_neg (by omega), if_neg (by omega), if_neg (by omega), if_neg (by omega), if_pos (by omega), show 6 + 3 * (12 * t' + i') + c - 3 = 6 + 3 * (12 * t' + (i' - 1)) + c by omega]]
        exact h t' h1 (i' - 1) (by rw [h4, nIt (by omega)]; omega) c hc
    · have em : insW w t m i x y z (2 + t') = w (2 + t') := by
        unfold insW
        rw [if_neg (by omega), if_neg (by omega), if_neg (by omega), if_neg (by omega), if_neg (by omega)]
      rw [em] at hi'
      rw [show insW w t m i x y z (6 + 3 * (12 * t' + i') + c) = w (6 + 3 * (12 * t' + i') + c) by
        unfold insW
        rw [if_neg (by omega), if_neg (by omega), if_neg (by omega), if_neg (by omega), if_neg (by omega)]]
      exact h t' ht' i' hi' c hc
  · intro t' ht' i' hi' c hc
    have d1 := hd t' (by omega)
    have m1 := hw.m (t := t') (by omega)
    by_cases e : t' = t
    · subst e
      have hi2 : i' < m - 1 := by
        unfold delW at hi'
        rw [if_pos rfl, nIt (by omega)] at hi'; exact hi'
      by_cases u : i' < i
      · rw [show delW w t' m i (6 + 3 * (12 * t' + i') + c) = w (6 + 3 * (12 * t' + i') + c) by
          unfold delW
          rw [if_neg (by omega), if_neg (by omega)]]
        exact h t' h1 i' (by rw [h4, nIt (by omega)]; omega) c hc
      · rw [show delW w t' m i (6 + 3 * (12 * t' + i') + c) = w (6 + 3 * (12 * t' + (i' + 1)) + c) by
          unfold delW
          rw [if_neg (by omega), if_pos (by omega), show 6 + 3 * (12 * t' + i') + c + 3 = 6 + 3 * (12 * t' + (i' + 1)) + c by omega]]
        exact h t' h1 (i' + 1) (by rw [h4, nIt (by omega)]; omega) c hc
    · have em : delW w t m i (2 + t') = w (2 + t') := by
        unfold delW
        rw [if_neg (by omega), if_neg (by omega)]
      rw [em] at hi'
      rw [show delW w t m i (6 + 3 * (12 * t' + i') + c) = w (6 + 3 * (12 * t' + i') + c) by
        unfold delW
        rw [if_neg (by omega), if_neg (by omega)]]
      exact h t' ht' i' hi' c hc
  · exact h.cong hn hw hd (fun x h1 h2 => by rw [if_neg (by omega)])
  · exact h.cong hn hw hd (fun x h1 h2 => by rw [if_neg (by omega)])
/-- all states that are kept have their numbers -/
def A9 (I : gM) : Prop := okW (I 62 17).toInt.toNat (I 72) (I 70) ∧ (∀ a, a < (I 62 29).toInt.toNat → okW (I 62 17).toInt.toNat (I 72) (fun x => I 81 (331 * a + x))) ∧ (I 62 42 ≠ 0 → okW (I 62 17).toInt.toNat (I 72) (I 89))
theorem A9.same {I r : gM} (h : A9 I) (h17 : r 62 17 = I 62 17) (h29 : r 62 29 = I 62 29) (h42 : r 62 42 = I 62 42) (hk : ∀ k, k = 70 ∨ k = 72 ∨ k = 81 ∨ k = 89 → r k = I k) : A9 r := by
  unfold A9
  rw [h17, h29, h42, hk 70 (by omega), hk 72 (by omega), hk 81 (by omega), hk 89 (by omega)]
  exact h
theorem MI.wd {I0 I : gM} (h : MI false I0 I) : ∀ t, t < 4 → (I 72 t).toInt ≤ 3 := fun t _ => (h.at (k := 72) (j := t) (lo := 0) (hi := 3) rfl).2
theorem MI.tn {I0 I : gM} (h : MI false I0 I) : ∃ n, n ≤ 4 ∧ I 62 17 = nI n := h.n (k := 62) (j := 17) (hi := 4) rfl
theorem n_rowsNow {I0 I : gM} (hM : MI false I0 I) : ∃ r, fX9_joinsNow I = some r ∧ fX9_rowsNow I = some (r 62 26, r) ∧ MI false I0 r ∧ GJ9 r ∧ (∀ k, k ≠ 62 → k ≠ 74 → k ≠ 75 → k ≠ 76 → k ≠ 77 → k ≠ 78 → k ≠ 79 → k ≠ 80 → r k = I k) ∧ ∀ j, j ≠ 19 → j ≠ 26 → j ≠ 27 → r 62 j = I 62 j := by
  obtain ⟨r, e, h1, h2⟩ := tfX9_joinsNow I hM
  refine ⟨r, e, ?_, h1, h2, fun k y1 y2 y3 y4 y5 y6 y7 y8 => ?_, fun j y1 y2 y3 => ?_⟩
  · unfold fX9_rowsNow
    rw [e, obs]
  · exact zfX9_joinsNow I e k (by omega) (by omega) (by omega) (by omega) (by omega) (by omega) (by omega) (by omega)
  · exact xfX9_joinsNow I e 62 j (Or.inr y1) (by omega) (Or.inr y2) (Or.inr y3) (by omega) (by omega) (by omega) (by omega) (by omega) (by omega)
/-- a line more in the log -/
def lg9 (w : Nat → Int32) (L : Nat) (s a v : Int32) : Nat → Int32 := fun x =>
  if x = 150 then nI ((if L = 60 then 59 else L) + 1) else if x = 151 + 3 * (if L = 60 then 59 else L) + 2 then v else if x = 151 + 3 * (if L = 60 then 59 else L) + 1 then a else if x = 151 + 3 * (if L = 60 then 59 else L) then s else if L = 60 ∧ 151 ≤ x ∧ x < 328 then w (x + 3) else w x
theorem n_note {I0 I : gM} (hM : MI false I0 I) {L : Nat} (hL : L ≤ 60) (e : I 70 150 = nI L) (s a : Int32) : ∃ I9 rj r, fX9_rowsNow I9 = some (rj 62 26, rj) ∧ fX9_joinsNow I9 = some rj ∧ MI false I0 I9 ∧ MI false I0 rj ∧ fX9_note s a I = some r ∧ MI false I0 r ∧ (∀ k, k ≠ 70 → I9 k = I k) ∧ (∀ x, x < 150 → I9 70 x = I 70 x) ∧ (∀ k, k ≠ 70 → r k = rj k) ∧ r 70 = lg9 (I 70) L s a (rj 62 26) := by
  have tail : ∀ (I1 : gM) (L1 : Nat), L1 ≤ 59 → MI false I0 I1 → I1 70 150 = nI L1 → ∃ I9 rj r, fX9_rowsNow I9 = some (rj 62 26, rj) ∧ fX9_joinsNow I9 = some rj ∧ MI false I0 I9 ∧ MI false I0 rj ∧ bX9_note_62 s a I1 = some r ∧ MI false I0 r ∧ (∀ k, k ≠ 70 → I9 k = I1 k) ∧ (∀ x, x < 150 → I9 70 x = I1 70 x) ∧ (∀ k, k ≠ 70 → r k = rj k) ∧ ∀ x, r 70 x = if x = 150 then nI (L1 + 1) else if x = 151 + 3 * L1 + 2 then rj 62 26 else if x = 151 + 3 * L1 + 1 then a else if x = 151 + 3 * L1 then s else I1 70 x := fun I1 L1 h1 M1 e1 => by
    have M9 : MI false I0 (g_up (g_up I1 70 (151 + 3 * L1) s) 70 (151 + 3 * L1 + 1) a) := (M1.up (k := 70) rfl (lo := -2147483648) (hi := 2147483647) (rgN_t (by omega)) (tTop _).1 (tTop _).2).up (k := 70) rfl (lo := -2147483648) (hi := 2147483647) (rgN_t (by omega)) (tTop _).1 (tTop _).2
    obtain ⟨rj, j1, j2, j3, j4, j5, j6⟩ := n_rowsNow M9
    have q70 : rj 70 = g_up (g_up I1 70 (151 + 3 * L1) s) 70 (151 + 3 * L1 + 1) a 70 := j5 70 (by omega) (by omega) (by omega) (by omega) (by omega) (by omega) (by omega) (by omega)
    have v150 : g_up rj 70 (151 + 3 * L1 + 2) (rj 62 26) 70 150 = nI L1 := by
      rw [g_up_ne (Or.inr (by omega)), q70, g_up_ne (Or.inr (by omega)), g_up_ne (Or.inr (by omega)), e1]
    refine ⟨_, rj, g_up (g_up rj 70 (151 + 3 * L1 + 2) (rj 62 26)) 70 150 (nI (L1 + 1)), j2, j1, M9, j3, ?_, (j3.up (k := 70) rfl (lo := -2147483648) (hi := 2147483647) (rgN_t (by omega)) (tTop _).1 (tTop _).2).up (k := 70) (j := 150) rfl (lo := 0) (hi := 60) rfl (by rw [tnI (by omega)]; omega) (by rw [tnI (by omega)]; omega), fun k hk => by rw [g_up_row hk, g_up_row hk], fun x hx => by rw [g_up_ne (Or.inr (by omega)), g_up_ne (Or.inr (by omega))], fun k hk => by rw [g_up_row hk, g_up_row hk], fun x => ?_⟩
    · have a151 : (151 : Int32) + (3 : Int32) * nI L1 = nI (151 + 3 * L1) := by rw [L151, L3, nI_mul, nI_add]
      unfold bX9_note_62
      rw [show rI 331 (I1 70) 150 = some (I1 70 150) from rI_n (a := 150) (by omega) (by omega), obs, e1, a151, wI_n (by omega) (by omega), obs, nI_1, wI_n (by omega) (by omega), obs, j2, obs]
      dsimp only
      rw [show nI (151 + 3 * L1) + 2 = nI (151 + 3 * L1 + 2) from nI_add _ 2, wI_n (by omega) (by omega), obs, show rI 331 (g_up rj 70 (151 + 3 * L1 + 2) (rj 62 26) 70) 150 = some _ from rI_n (a := 150) (by omega) (by omega), obs, v150, nI_1, show ∀ v, wI (g_up rj 70 (151 + 3 * L1 + 2) (rj 62 26)) 70 331 150 v = some _ from fun v => wI_n (a := 150) (by omega) (by omega), obs]
    · rw [gu_in, gu_in, q70, gu_in, gu_in]
  unfold fX9_note
  rw [show rI 331 (I 70) 150 = some (I 70 150) from rI_n (a := 150) (by omega) (by omega), obs]
  by_cases c : L = 60
  · subst c
    rw [if_pos (show I 70 150 = (60 : Int32) from e)]
    obtain ⟨w, ew, w1, w2, w3⟩ := n_note15 hM
    have w150 : w 70 150 = nI 60 := by rw [w2, if_neg (by omega), e]
    obtain ⟨I9, rj, r, k1, k2, k3, k4, k5, k6, k7, k8, k9, k10⟩ := tail (g_up w 70 150 (nI 59)) 59 (by omega) (w1.up (k := 70) (j := 150) rfl (lo := 0) (hi := 60) rfl (by decide) (by decide)) g_up_self
    refine ⟨I9, rj, r, k1, k2, k3, k4, ?_, k6, fun k hk => by rw [k7 k hk, g_up_row hk, w3 k hk], fun x hx => by rw [k8 x hx, g_up_ne (Or.inr (by omega)), w2, if_neg (by omega)], k9, ?_⟩
    · rw [show ((3 : Int32), I) = (nI 3, I) from rfl, ew, obs, show rI 331 (w 70) 150 = some (w 70 150) from rI_n (a := 150) (by omega) (by omega), obs, w150, show nI 60 - 1 = nI 59 from rfl, show wI w 70 331 150 (nI 59) = some _ from wI_n (a := 150) (by omega) (by omega), obs, k5]
    · funext x
      rw [k10]
      unfold lg9
      rw [if_pos rfl]
      by_cases c1 : x = 150
      · rw [if_pos c1, if_pos c1]
      · rw [if_neg c1, if_neg c1, g_up_ne (Or.inr c1), w2]
        by_cases c2 : 151 ≤ x ∧ x < 328
        · rw [if_pos c2, if_pos (show 60 = 60 ∧ 151 ≤ x ∧ x < 328 from ⟨rfl, c2⟩)]
        · rw [if_neg c2, if_neg (show ¬ (60 = 60 ∧ 151 ≤ x ∧ x < 328) from fun q => c2 q.2)]
  · rw [if_neg (show ¬ I 70 150 = (60 : Int32) from fun q => c (nI_inj (b := 60) (e.symm.trans q) (by omega) (by omega)))]
    obtain ⟨I9, rj, r, k1, k2, k3, k4, k5, k6, k7, k8, k9, k10⟩ := tail I L (by omega) hM e
    refine ⟨I9, rj, r, k1, k2, k3, k4, k5, k6, k7, k8, k9, ?_⟩
    funext x
    rw [k10]
    unfold lg9
    rw [if_neg c, if_neg (show ¬ (L = 60 ∧ 151 ≤ x ∧ x < 328) from fun q => c q.1)]
/-- an act as a whole -/
theorem n_act {I0 I : gM} (hM : MI false I0 I) (hA : A9 I) {n A L : Nat} (hn : n ≤ 4) (en : I 62 17 = nI n) (hA4 : A ≤ 40) (eA : I 62 29 = nI A) (hL : L ≤ 60) (eL : I 70 150 = nI L) {s a x y z : Int32} {w' : Nat → Int32} (h : Act9 n (I 72) (I 70) s a x y z w') : ∃ I9 rj v r, fX9_joinsNow I9 = some rj ∧ MI false I0 I9 ∧ fX9_act s a x y z I = some (v, r) ∧ MI false I0 r ∧ A9 r ∧ (∀ k, k ≠ 62 → k ≠ 70 → k ≠ 81 → I9 k = I k) ∧ (∀ j, j ≠ 29 → I9 62 j = I 62 j) ∧ (∀ x, x < 150 → I9 70 x = w' x) ∧ (∀ k, k ≠ 70 → r k = rj k) ∧ r 70 = lg9 w' L s a (rj 62 26) ∧ r 81 = kp9 A (I 81) (I 70) ∧ r 62 29 = nI (if A = 40 then 40 else A + 1) ∧ (∀ j, j ≠ 19 → j ≠ 26 → j ≠ 27 → j ≠ 29 → r 62 j = I 62 j) ∧ (∀ k, k ≠ 62 → k ≠ 70 → k ≠ 74 → k ≠ 75 → k ≠ 76 → k ≠ 77 → k ≠ 78 → k ≠ 79 → k ≠ 80 → k ≠ 81 → r k = I k) ∧ (s = 0 ∨ s = 1 → ∃ t, t < n ∧ a = nI t ∧ v = w' (2 + t)) ∧ (s = 2 → ∃ t, t < n ∧ a = nI t ∧ ((hs (w' 0) t ∧ v = 1) ∨ (¬ hs (w' 0) t ∧ v = 0))) ∧ (¬ s = 0 → ¬ s = 1 → ¬ s = 2 → v = I 70 1) := by
  obtain ⟨k, ek, k1, k2, k3, k4, k5⟩ := n_keep hM hA4 eA
  have k70 : k 70 = I 70 := k5 70 (by omega) (by omega)
  have k72 : k 72 = I 72 := k5 72 (by omega) (by omega)
  have kn : k 62 17 = nI n := by rw [k4 17 (by omega)]; exact en
  obtain ⟨v, d, ed, d1, d2, d3, d4, d5, d6⟩ := n_doNow k1 hn kn (s := s) (a := a) (x := x) (y := y) (z := z) (w' := w') (by rw [k70, k72]; exact h)
  have w150 : w' 150 = I 70 150 := by
    rcases h with ⟨_, t, m, i, h1, h2, h3, h4, h5, h6, h7, rfl⟩ | ⟨_, t, m, i, h1, h2, h3, h4, h5, h6, h7, h8, rfl⟩ | ⟨_, t, h1, h2, h3, rfl⟩ | ⟨_, _, _, o, h1, h2, h3, h4, rfl⟩
    · have := h6.1
      unfold insW
      rw [if_neg (by omega), if_neg (by omega), if_neg (by omega), if_neg (by omega), if_neg (by omega)]
    · unfold delW
      rw [if_neg (by omega), if_neg (by omega)]
    · rfl
    · rfl
  obtain ⟨I9, rj, r, n1, n2, n3, n4, n5, n6, n7, n8, n9, n10⟩ := n_note d1 hL (by rw [d3, w150]; exact eL) s a
  obtain ⟨rj', j1, _, _, _, j5, j6⟩ := n_rowsNow n3
  obtain rfl : rj' = rj := Option.some.inj (j1.symm.trans n2)
  have f62 : ∀ j, j ≠ 19 → j ≠ 26 → j ≠ 27 → j ≠ 29 → r 62 j = I 62 j := fun j y1 y2 y3 y4 => by
    rw [n9 62 (by omega), j6 j y1 y2 y3, n7 62 (by omega), d2 62 (by omega), k4 j y4]
  have f29 : r 62 29 = nI (if A = 40 then 40 else A + 1) := by
    rw [n9 62 (by omega), j6 29 (by omega) (by omega) (by omega), n7 62 (by omega), d2 62 (by omega), k2]
  have fk : ∀ k', k' ≠ 62 → k' ≠ 70 → k' ≠ 74 → k' ≠ 75 → k' ≠ 76 → k' ≠ 77 → k' ≠ 78 → k' ≠ 79 → k' ≠ 80 → r k' = k k' := fun k' y1 y2 y3 y4 y5 y6 y7 y8 y9 => by
    rw [n9 k' y2, j5 k' y1 y3 y4 y5 y6 y7 y8 y9, n7 k' y2, d2 k' y2]
  have f81 : r 81 = kp9 A (I 81) (I 70) := by
    rw [fk 81 (by omega) (by omega) (by omega) (by omega) (by omega) (by omega) (by omega) (by omega) (by omega)]; exact k3
  have r70 : r 70 = lg9 w' L s a (rj' 62 26) := by rw [n10, d3]
  have hw := mi_rW hM
  have ok1 := hA.1
  rw [en, nIt (by omega)] at ok1
  refine ⟨I9, rj', v, r, n2, n3, ?_, n6, ⟨?_, fun a' ha' => ?_, fun q => ?_⟩, fun k' y1 y2 y3 => by rw [n7 k' y2, d2 k' y2, k5 k' y1 y3], fun j hj => by rw [n7 62 (by omega), d2 62 (by omega), k4 j hj], fun x hx => by rw [n8 x hx, d3], n9, r70, f81, f29, f62, fun k' y1 y2 y3 y4 y5 y6 y7 y8 y9 y10 => by rw [fk k' y1 y2 y3 y4 y5 y6 y7 y8 y9, k5 k' y1 y10], d4, d5, fun y1 y2 y3 => by rw [d6 y1 y2 y3, k70]⟩
  · unfold fX9_act
    rw [ek, obs, ed, obs, n5, obs]
  · have e72 : r 72 = I 72 := by rw [fk 72 (by omega) (by omega) (by omega) (by omega) (by omega) (by omega) (by omega) (by omega) (by omega)]; exact k72
    rw [f62 17 (by omega) (by omega) (by omega) (by omega), en, nIt (by omega), e72]
    refine (ok1.act hn hw hM.wd h).cong hn (act_rW h hn hw) hM.wd (fun x h1 h2 => ?_)
    rw [r70]
    unfold lg9
    rw [if_neg (by omega), if_neg (by omega), if_neg (by omega), if_neg (by omega), if_neg (by omega)]
  · have e72 : r 72 = I 72 := by rw [fk 72 (by omega) (by omega) (by omega) (by omega) (by omega) (by omega) (by omega) (by omega) (by omega)]; exact k72
    rw [f62 17 (by omega) (by omega) (by omega) (by omega), en, nIt (by omega), e72]
    have h2 := hA.2.1
    rw [en, nIt (by omega), eA, nIt (by omega)] at h2
    rw [f29] at ha'
    have rK : ∀ q, q < 40 → rW (fun x => I 81 (331 * q + x)) ∨ True := fun _ _ => Or.inr trivial
    have cong2 : ∀ (q : Nat) (w1 : Nat → Int32), okW n (I 72) w1 → (∀ x, x < 331 → r 81 (331 * a' + x) = w1 x) → (∀ t, t < 4 → (w1 (2 + t)).toInt ≤ 12) → okW n (I 72) (fun x => r 81 (331 * a' + x)) := fun q w1 ok he h12 => by
      intro t ht i hi c hc
      dsimp only at hi ⊢
      have h12' := h12 t (by omega)
      have hd := hM.wd t (by omega)
      rw [he _ (by omega)] at hi ⊢
      exact ok t ht i hi c hc
    have k12 : ∀ q t, t < 4 → (I 81 (331 * q + (2 + t))).toInt ≤ 12 := fun q t ht => by
      have := hM.1 81 (331 * q + (2 + t))
      rw [rg81 q (2 + t) (by omega), rgN_m ht] at this
      exact this.2
    have i12 : ∀ t, t < 4 → (I 70 (2 + t)).toInt ≤ 12 := fun t ht => (hw.m ht).2
    by_cases c : A = 40
    · rw [if_pos c, nIt (by omega)] at ha'
      by_cases c2 : a' = 39
      · refine cong2 0 (I 70) ok1 (fun x hx => ?_) i12
        rw [f81]
        unfold kp9
        rw [if_pos c, if_pos (by omega), show 331 * a' + x - 12909 = x by omega]
      · refine cong2 0 (fun x => I 81 (331 * (a' + 1) + x)) (h2 (a' + 1) (by omega)) (fun x hx => ?_) (fun t ht => k12 _ t ht)
        rw [f81]
        unfold kp9
        rw [if_pos c, if_neg (by omega), if_pos (by omega), show 331 * a' + x + 331 = 331 * (a' + 1) + x by omega]
    · rw [if_neg c, nIt (by omega)] at ha'
      by_cases c2 : a' = A
      · refine cong2 0 (I 70) ok1 (fun x hx => ?_) i12
        rw [f81]
        unfold kp9
        rw [if_neg c, if_pos (by omega), show 331 * a' + x - 331 * A = x by omega]
      · refine cong2 0 (fun x => I 81 (331 * a' + x)) (h2 a' (by omega)) (fun x hx => ?_) (fun t ht => k12 _ t ht)
        rw [f81]
        unfold kp9
        rw [if_neg c, if_neg (by omega)]
  · have e72 : r 72 = I 72 := by rw [fk 72 (by omega) (by omega) (by omega) (by omega) (by omega) (by omega) (by omega) (by omega) (by omega)]; exact k72
    rw [f62 17 (by omega) (by omega) (by omega) (by omega), e72, fk 89 (by omega) (by omega) (by omega) (by omega) (by omega) (by omega) (by omega) (by omega) (by omega), k5 89 (by omega) (by omega)]
    exact hA.2.2 (by rw [← f62 42 (by omega) (by omega) (by omega) (by omega)]; exact q)
end P_29c_act9
section P_29d_hand9
/-! the reference: what is called for -/
theorem n_hand {I0 I : gM} (hM : MI false I0 I) (hA : A9 I) (s a x y z : Int32) : T (fX9_hand s a x y z I) (fun r => MI false I0 r.2 ∧ A9 r.2) := by
  obtain ⟨n, hn, en⟩ := hM.tn
  obtain ⟨A, hA4, eA⟩ := hM.n (k := 62) (j := 29) (hi := 40) rfl
  obtain ⟨L, hL, eL⟩ := hM.n (k := 70) (j := 150) (hi := 60) rfl
  unfold fX9_hand
  refine t_bindE (tfX9_whyNot s a x y z I hM) (fun v ev pv => ?_)
  have pv : -1 ≤ v.toInt ∧ v.toInt ≤ 3 := pv
  refine t_ite (fun c => ?_) (fun c => ?_)
  · rw [c] at ev
    obtain ⟨w', hw'⟩ := n_can hM hn en ev
    obtain ⟨I9, rj, v', r, j1, j2, e, r1, r2, _⟩ := n_act hM hA hn en hA4 eA hL eL hw'
    exact t_be e (t_ret ⟨r1, r2⟩)
  · have m1 : ((-1) : Int32).toInt = -1 := by decide
    have h0 : 0 ≤ v.toInt := by
      have : ¬ v.toInt = -1 := fun q => c (Int32.toInt_inj.mp (q.trans m1.symm))
      omega
    have e := nI_self h0
    rw [e]
    refine t_be (rI_n (by omega) (by omega)) (t_be (wI_n (by omega) (by omega)) (t_ret ⟨hM.up (k := 71) rfl (lo := -2147483648) (hi := 2147483647) rfl (tTop _).1 (tTop _).2, ?_⟩))
    have f62 : g_up I 71 v.toInt.toNat (I 71 v.toInt.toNat + 1) 62 = I 62 := g_up_row (by omega)
    exact hA.same (by dsimp only; rw [f62]) (by dsimp only; rw [f62]) (by dsimp only; rw [f62]) (fun k hk => g_up_row (by omega))
theorem n_put {I0 I : gM} (hM : MI false I0 I) (hA : A9 I) (a x y z : Int32) : T (fX9_put a x y z I) (fun r => MI false I0 r.2 ∧ A9 r.2) := by
  unfold fX9_put; exact t_bind (n_hand hM hA _ _ _ _ _) (fun r h => t_ret h)
theorem n_take {I0 I : gM} (hM : MI false I0 I) (hA : A9 I) (a x y z : Int32) : T (fX9_take a x y z I) (fun r => MI false I0 r.2 ∧ A9 r.2) := by
  unfold fX9_take; exact t_bind (n_hand hM hA _ _ _ _ _) (fun r h => t_ret h)
theorem n_use {I0 I : gM} (hM : MI false I0 I) (hA : A9 I) (a : Int32) : T (fX9_use a I) (fun r => MI false I0 r.2 ∧ A9 r.2) := by
  unfold fX9_use; exact t_bind (n_hand hM hA _ _ _ _ _) (fun r h => t_ret h)
theorem n_order {I0 I : gM} (hM : MI false I0 I) (hA : A9 I) (a : Int32) : T (fX9_order a I) (fun r => MI false I0 r.2 ∧ A9 r.2) := by
  unfold fX9_order; exact t_bind (n_hand hM hA _ _ _ _ _) (fun r h => t_ret h)
theorem n_tryOne {I0 I : gM} (hM : MI false I0 I) (hA : A9 I) (s a x y z : Int32) : T (fX9_tryOne s a x y z I) (fun r => MI false I0 r ∧ A9 r ∧ r 62 17 = I 62 17 ∧ r 72 = I 72 ∧ r 68 = I 68 ∧ r 69 = I 69) := by
  obtain ⟨n, hn, en⟩ := hM.tn
  obtain ⟨A, hA4, eA⟩ := hM.n (k := 62) (j := 29) (hi := 40) rfl
  obtain ⟨L, hL, eL⟩ := hM.n (k := 70) (j := 150) (hi := 60) rfl
  unfold fX9_tryOne
  refine t_bindE (tfX9_whyNot s a x y z I hM) (fun v ev pv => ?_)
  refine t_ite (fun c => ?_) (fun c => ?_)
  · rw [c] at ev
    obtain ⟨w', hw'⟩ := n_can hM hn en ev
    obtain ⟨I9, rj, v', r, j1, j2, e, r1, r2, _, _, _, _, _, _, _, f1, f2, _⟩ := n_act hM hA hn en hA4 eA hL eL hw'
    exact t_be e (t_ret ⟨r1, r2, f1 17 (by omega) (by omega) (by omega) (by omega), f2 72 (by omega) (by omega) (by omega) (by omega) (by omega) (by omega) (by omega) (by omega) (by omega) (by omega), f2 68 (by omega) (by omega) (by omega) (by omega) (by omega) (by omega) (by omega) (by omega) (by omega) (by omega), f2 69 (by omega) (by omega) (by omega) (by omega) (by omega) (by omega) (by omega) (by omega) (by omega) (by omega)⟩)
  · exact t_ret ⟨hM, hA, rfl, rfl, rfl, rfl⟩
/-! draws -/
theorem lU_33 (x : Int64) : ∃ q : Nat, q < 2 ^ 31 ∧ (lU x 33).toInt = (q : Int) := by
  have h : ((33 : Int32).toInt64.toUInt64 &&& Int64.toUInt64 63) = 33 := by decide
  unfold lU
  rw [h]
  have h2 : (x.toUInt64 >>> 33).toNat = x.toUInt64.toNat / 2 ^ 33 := by
    rw [UInt64.toNat_shiftRight, Nat.shiftRight_eq_div_pow]; rfl
  have h3 : x.toUInt64.toNat < 2 ^ 64 := x.toUInt64.toNat_lt
  refine ⟨(x.toUInt64 >>> 33).toNat, ?_, ?_⟩
  · rw [h2]; omega
  · show ((x.toUInt64 >>> 33).toBitVec).toInt = _
    have h4 : (x.toUInt64 >>> 33).toBitVec.toNat = (x.toUInt64 >>> 33).toNat := rfl
    rw [BitVec.toInt_eq_toNat_of_lt (by rw [h4, h2]; omega), h4]
theorem n_lM {a : Int64} {q m : Nat} (ha : a.toInt = (q : Int)) (hq : q < 2 ^ 31) (hm : 0 < m) (hm2 : m < 2 ^ 31) : ∃ u, lM a (nI m).toInt64 = some u ∧ u.toInt32 = nI (q % m) := by
  have hb : ((nI m).toInt64).toInt = (m : Int) := by rw [Int32.toInt_toInt64, tnI hm2]
  have hn : ¬ (nI m).toInt64 = 0 := fun e => by
    rw [e] at hb
    have : (0 : Int64).toInt = 0 := by decide
    omega
  refine ⟨_, if_neg hn, ?_⟩
  have d1 : (a / (nI m).toInt64).toInt = ((q / m : Nat) : Int) := by
    rw [Int64.toInt_div, ha, hb, Int.tdiv_eq_ediv_of_nonneg (by omega)]
    have : q / m ≤ q := Nat.div_le_self q m
    have h0 : 0 ≤ ((q : Int) / (m : Int)) := Int.ediv_nonneg (by omega) (by omega)
    rw [show ((q : Int) / (m : Int)) = ((q / m : Nat) : Int) from rfl]
    exact Int.bmod_eq_of_le (by omega) (by omega)
  have d2 : (a / (nI m).toInt64 * (nI m).toInt64).toInt = ((q / m * m : Nat) : Int) := by
    rw [Int64.toInt_mul, d1, hb]
    have : q / m * m ≤ q := Nat.div_mul_le_self q m
    rw [show ((q / m : Nat) : Int) * (m : Int) = ((q / m * m : Nat) : Int) by rw [Int.natCast_mul]]
    exact Int.bmod_eq_of_le (by omega) (by omega)
  have d3 : (a - a / (nI m).toInt64 * (nI m).toInt64).toInt = ((q % m : Nat) : Int) := by
    rw [Int64.toInt_sub, ha, d2]
    have h1 := Nat.div_add_mod q m
    rw [Nat.mul_comm] at h1
    rw [show ((q : Int) - ((q / m * m : Nat) : Int)) = ((q % m : Nat) : Int) by omega]
    have : q % m ≤ q := Nat.mod_le q m
    exact Int.bmod_eq_of_le (by omega) (by omega)
  apply Int32.toInt_inj.mp
  have : q % m ≤ q := Nat.mod_le q m
  rw [Int64.toInt_toInt32, d3, tnI (by omega)]
  exact Int.bmod_eq_of_le (by omega) (by omega)
/-- the draw behind x -/
def dr9 (x : Int64) : Int64 := x * 6364136223846793005 + 1442695040888963407
theorem n_draw (J : gN) {m : Nat} (hm : 0 < m) (hm2 : m < 2 ^ 31) : ∃ k J', k < m ∧ fX9_draw (nI m) J = some (nI k, J') ∧ J' = g_up J 62 30 (dr9 (J 62 30)) := by
  obtain ⟨q, q1, q2⟩ := lU_33 (dr9 (J 62 30))
  obtain ⟨u, u1, u2⟩ := n_lM q2 q1 hm hm2
  refine ⟨q % m, _, Nat.mod_lt _ hm, ?_, rfl⟩
  unfold fX9_draw
  rw [pU_n, obs, g_up_self, show (J 62 30 * 6364136223846793005 + 1442695040888963407) = dr9 (J 62 30) from rfl, u1, obs, u2]
theorem n_drawWay {I0 I : gM} (hM : MI false I0 I) (hA : A9 I) {n : Nat} (h0 : 0 < n) (hn : n ≤ 4) (en : I 62 17 = nI n) (J : gN) : T (fX9_drawWay I J) (fun r => MI false I0 r.1 ∧ A9 r.1 ∧ r.1 62 17 = nI n) := by
  have fin : ∀ (s a x y z : Int32) (J1 : gN), T ((fX9_tryOne s a x y z I).bind fun r => some (r, J1)) (fun r => MI false I0 r.1 ∧ A9 r.1 ∧ r.1 62 17 = nI n) := fun s a x y z J1 =>
    t_bind (n_tryOne hM hA s a x y z) (fun r h => t_ret ⟨h.1, h.2.1, h.2.2.1.trans en⟩)
  unfold fX9_drawWay
  obtain ⟨k1, J1, kl1, e1, _⟩ := n_draw J (m := 8) (by omega) (by omega)
  refine t_be e1 ?_
  dsimp only
  refine t_ite (fun c => ?_) (fun c => ?_)
  · obtain ⟨k2, J2, kl2, e2, _⟩ := n_draw J1 (m := 24) (by omega) (by omega)
    refine t_be e2 ?_
    exact fin _ _ _ _ _ _
  · obtain ⟨t, J2, kt, e2, _⟩ := n_draw J1 (m := n) h0 (by omega)
    rw [en]
    refine t_be e2 ?_
    dsimp only
    refine t_ite (fun c2 => ?_) (fun c2 => ?_)
    · refine t_ite (fun c3 => ?_) (fun c3 => ?_)
      · exact fin _ _ _ _ _ _
      · obtain ⟨i, J3, ki, e3, _⟩ := n_draw J2 (m := 12) (by omega) (by omega)
        refine t_be e3 ?_
        dsimp only
        obtain ⟨m, m12, em⟩ := hM.n (k := 70) (j := 2 + t) (hi := 12) (rgN_m (by omega))
        rw [n_many (by omega), obs, em]
        refine t_ite (fun c4 => ?_) (fun c4 => ?_)
        · exact t_ret ⟨hM, hA, en⟩
        · have c4 := mt (nI_leI (a := m) (b := i) (by omega) (by omega)).mpr c4
          rw [n_rowAt, obs, L1, L2, nI_add, nI_add]
          refine t_be (rI_n (by omega) (by omega)) (t_be (rI_n (by omega) (by omega)) (t_be (rI_n (by omega) (by omega)) ?_))
          exact fin _ _ _ _ _ _
    · obtain ⟨x, J3, kx, e3, _⟩ := n_draw J2 (m := 6) (by omega) (by omega)
      refine t_be e3 ?_
      dsimp only
      have last : ∀ (y : Int32) (J4 : gN), T (bX9_drawWay_69 (nI t) (nI x) y I J4) (fun r => MI false I0 r.1 ∧ A9 r.1 ∧ r.1 62 17 = nI n) := fun y J4 => by
        unfold bX9_drawWay_69
        refine t_be (rI_n (by omega) (by omega)) ?_
        refine t_ite (fun c5 => ?_) (fun c5 => ?_)
        · unfold bX9_drawWay_97; exact fin _ _ _ _ _ _
        · obtain ⟨z, J5, kz, e5, _⟩ := n_draw J4 (m := 6) (by omega) (by omega)
          refine t_be e5 ?_
          unfold bX9_drawWay_97; exact fin _ _ _ _ _ _
      refine t_be (rI_n (by omega) (by omega)) ?_
      refine t_ite (fun c5 => ?_) (fun c5 => ?_)
      · exact last _ _
      · obtain ⟨y, J4, ky, e4, _⟩ := n_draw J3 (m := 6) (by omega) (by omega)
        refine t_be e4 ?_
        exact last _ _
theorem n_ways27 {I0 I : gM} (hM : MI false I0 I) (hA : A9 I) {n : Nat} (h0 : 0 < n) (hn : n ≤ 4) (en : I 62 17 = nI n) (J : gN) {v1 : Int32} (hv : 1 ≤ v1.toInt ∧ v1.toInt ≤ 40) : T (lX9_ways_27 v1 (nI 0, I, J)) (fun r => MI false I0 r.1 ∧ A9 r.1 ∧ r.1 62 17 = nI n) := by
  unfold lX9_ways_27
  refine t_it (P := fun s => ∃ k, s.1 = nI k ∧ k ≤ 40 ∧ MI false I0 s.2.1 ∧ A9 s.2.1 ∧ s.2.1 62 17 = nI n) (μ := fun s => 50 - s.1.toInt.toNat) (fun s p => ?_) ⟨0, rfl, by omega, hM, hA, en⟩
  obtain ⟨s1, I1, J1⟩ := s
  obtain ⟨k, e1, h1, hM2, h2, h3⟩ := p
  dsimp only at e1 hM2 h2 h3
  subst e1
  dsimp only
  refine t_ite (fun c => ?_) (fun c => ?_)
  · exact t_ret ⟨hM2, h2, h3⟩
  · have c := mt (iLE (a := v1) (b := nI k) rfl (tnI (by omega))).mpr c
    refine t_bind (n_drawWay hM2 h2 h0 hn h3 J1) (fun r h => ?_)
    refine t_nx ?_ (by show 50 - (nI k + 1).toInt.toNat < 50 - (nI k).toInt.toNat; rw [nI_1, nIt (by omega), nIt (by omega)]; omega)
    exact ⟨k + 1, nI_1 k, by omega, h⟩
theorem A9.join {I r : gM} (h : A9 I) (hk : ∀ k, k ≠ 62 → k ≠ 74 → k ≠ 75 → k ≠ 76 → k ≠ 77 → k ≠ 78 → k ≠ 79 → k ≠ 80 → r k = I k) (hj : ∀ j, j ≠ 19 → j ≠ 26 → j ≠ 27 → r 62 j = I 62 j) : A9 r :=
  h.same (hj 17 (by omega) (by omega) (by omega)) (hj 29 (by omega) (by omega) (by omega)) (hj 42 (by omega) (by omega) (by omega)) (fun k q => hk k (by omega) (by omega) (by omega) (by omega) (by omega) (by omega) (by omega) (by omega))
theorem n_ways {I0 I : gM} (hM : MI false I0 I) (hA : A9 I) (v1 : Int32) (v2 : Int64) (J : gN) : T (fX9_ways v1 v2 I J) (fun r => MI false I0 r.2.1 ∧ A9 r.2.1) := by
  obtain ⟨n, hn, en⟩ := hM.tn
  unfold fX9_ways
  rw [n_areTables hn en, obs]
  by_cases c : n = 0
  · rw [if_pos c, if_pos rfl]
    exact t_ret ⟨hM, hA⟩
  · rw [if_neg c, if_neg (by decide)]
    have t40 : (40 : Int32).toInt = 40 := by decide
    rcases n_in v1 1 40 with ⟨h1, h2, h3⟩ | ⟨h1, h3⟩
    · rw [h3, obs, if_neg (by decide)]
      rw [t1i] at h1
      rw [t40] at h2
      refine t_bind (P := fun _ => True) ⟨_, rfl, trivial⟩ (fun J3 _ => ?_)
      refine t_bind (n_ways27 hM hA (by omega) hn en J3 ⟨h1, h2⟩) (fun w pw => ?_)
      obtain ⟨w1, w2, w3⟩ := pw
      obtain ⟨r, _, e, r1, _, r3, r4⟩ := n_rowsNow w1
      exact t_be e (t_ret ⟨r1, w2.join r3 r4⟩)
    · rw [h3, obs, if_pos rfl]
      exact t_ret ⟨hM, hA⟩
theorem n_undoA {I0 I : gM} (hM : MI false I0 I) (hA : A9 I) : T (fX9_undo I) (fun r => MI false I0 r.2 ∧ A9 r.2) := by
  obtain ⟨n, hn, en⟩ := hM.tn
  obtain ⟨A, hA4, eA⟩ := hM.n (k := 62) (j := 29) (hi := 40) rfl
  by_cases c : A = 0
  · subst c
    unfold fX9_undo
    rw [if_pos (show I 62 29 = (0 : Int32) from eA)]
    exact t_ret ⟨hM, hA⟩
  · obtain ⟨r, e, r1, r2, r3, r4, r5⟩ := n_undo hM hA4 eA (by omega)
    refine ⟨_, e, r1, ?_⟩
    have h2 := hA.2.1
    rw [eA, nIt (by omega)] at h2
    have hk := h2 (A - 1) (by omega)
    show A9 r
    refine ⟨?_, fun a ha => ?_, fun q => ?_⟩
    · rw [r4 17 (by omega), r5 72 (by omega) (by omega)]
      have e70 : ∀ x, x < 150 → r 70 x = I 81 (331 * (A - 1) + x) := fun x hx => by rw [r3, if_pos (by omega)]
      intro t ht i hi c' hc
      rw [en, nIt (by omega)] at ht
      have h12 : (I 81 (331 * (A - 1) + (2 + t))).toInt ≤ 12 := by
        have := hM.1 81 (331 * (A - 1) + (2 + t))
        rw [rg81 _ _ (by omega), rgN_m (by omega)] at this
        exact this.2
      have hd := hM.wd t (by omega)
      rw [e70 _ (by omega)] at hi
      rw [e70 _ (by omega)]
      exact hk t (by rw [en, nIt (by omega)]; exact ht) i hi c' hc
    · rw [r4 17 (by omega), r5 72 (by omega) (by omega), r5 81 (by omega) (by omega)]
      rw [r2, nIt (by omega)] at ha
      exact h2 a (by omega)
    · rw [r4 17 (by omega), r5 72 (by omega) (by omega), r5 89 (by omega) (by omega)]
      exact hA.2.2 (by rw [← r4 42 (by omega)]; exact q)
theorem n_image {I0 I : gM} (hM : MI false I0 I) (hA : A9 I) : T (fX9_image I) (fun r => MI false I0 r.2 ∧ A9 r.2) := by
  obtain ⟨n, hn, en⟩ := hM.tn
  unfold fX9_image
  rw [n_areTables hn en, obs]
  by_cases c : n = 0
  · rw [if_pos c, if_pos rfl]
    exact t_ret ⟨hM, hA⟩
  · rw [if_neg c, if_neg (by decide)]
    refine t_bind (n_lX9_image_11 hM) (fun w pw => ?_)
    obtain ⟨w1, w2, w3⟩ := pw
    refine t_be pU_n ?_
    have M5 : MI false I0 (g_up w 62 42 1) := w1.up (k := 62) rfl (lo := 0) (hi := 1) rfl (by decide) (by decide)
    obtain ⟨r, _, e, r1, _, r3, r4⟩ := n_rowsNow M5
    refine t_be e (t_ret ⟨r1, ?_⟩)
    have A5 : A9 (g_up w 62 42 1) := by
      have gk : ∀ k, k ≠ 62 → g_up w 62 42 1 k = w k := fun k hk => g_up_row hk
      have g17 : g_up w 62 42 1 62 17 = I 62 17 := by rw [g_up_ne (Or.inr (by omega)), w3 62 (by omega)]
      have g29 : g_up w 62 42 1 62 29 = I 62 29 := by rw [g_up_ne (Or.inr (by omega)), w3 62 (by omega)]
      unfold A9
      rw [g17, g29, gk 70 (by omega), gk 72 (by omega), gk 81 (by omega), gk 89 (by omega), w3 70 (by omega), w3 72 (by omega), w3 81 (by omega)]
      refine ⟨hA.1, hA.2.1, fun _ => ?_⟩
      refine hA.1.cong (by rw [en, nIt (by omega)]; exact hn) (mi_rW hM) hM.wd (fun x h1 h2 => ?_)
      rw [w2, if_pos (by omega), show x - 0 + 0 = x by omega]
    exact A5.join r3 r4
theorem n_back {I0 I : gM} (hM : MI false I0 I) (hA : A9 I) : T (fX9_back I) (fun r => MI false I0 r.2 ∧ A9 r.2) := by
  obtain ⟨n, hn, en⟩ := hM.tn
  unfold fX9_back
  refine t_ite (fun c => t_ret ⟨hM, hA⟩) (fun c => ?_)
  refine t_bind (n_lX9_back_11 hM) (fun w pw => ?_)
  obtain ⟨w1, w2, w3⟩ := pw
  refine t_be pU_n ?_
  have M5 : MI false I0 (g_up w 62 29 0) := w1.up (k := 62) rfl (lo := 0) (hi := 40) rfl (by decide) (by decide)
  obtain ⟨r, _, e, r1, _, r3, r4⟩ := n_rowsNow M5
  refine t_be e (t_ret ⟨r1, ?_⟩)
  have A5 : A9 (g_up w 62 29 0) := by
    have gk : ∀ k, k ≠ 62 → g_up w 62 29 0 k = w k := fun k hk => g_up_row hk
    have g17 : g_up w 62 29 0 62 17 = I 62 17 := by rw [g_up_ne (Or.inr (by omega)), w3 62 (by omega)]
    have g42 : g_up w 62 29 0 62 42 = I 62 42 := by rw [g_up_ne (Or.inr (by omega)), w3 62 (by omega)]
    have g29 : g_up w 62 29 0 62 29 = 0 := g_up_self
    unfold A9
    rw [g17, g29, g42, gk 70 (by omega), gk 72 (by omega), gk 81 (by omega), gk 89 (by omega), w3 72 (by omega), w3 81 (by omega), w3 89 (by omega)]
    refine ⟨?_, fun a ha => absurd ha (by rw [t0i]; omega), hA.2.2⟩
    have hw : rW (I 89) := fun j => hM.1 89 j
    refine (hA.2.2 c).cong (by rw [en, nIt (by omega)]; exact hn) hw hM.wd (fun x h1 h2 => ?_)
    rw [w2, if_pos (by omega), show x - 0 + 0 = x by omega]
  exact A5.join r3 r4
/-- the state is as it was -/
theorem n_goSteps1 {I0 I : gM} (hM : MI false I0 I) (hA : A9 I) {sc : Nat} (hs : sc < 4) : T (fX9_goSteps (nI sc) (nI 1) I) (fun r => MI false I0 r.2 ∧ A9 r.2) := by
  obtain ⟨n, hn, en⟩ := hM.tn
  have key : T (lX9_goSteps_2 (nI sc) (nI 1) (nI 0, I)) (Sum.elim (fun r : Int32 × gM => MI false I0 r.2 ∧ A9 r.2) (fun r : gM => MI false I0 r ∧ A9 r)) := by
    unfold lX9_goSteps_2
    refine t_it (P := fun s => ∃ i, s.1 = nI i ∧ i ≤ 12 ∧ MI false I0 s.2 ∧ A9 s.2 ∧ s.2 62 17 = nI n) (μ := fun s => 20 - s.1.toInt.toNat) (fun s p => ?_) ⟨0, rfl, by omega, hM, hA, en⟩
    obtain ⟨s1, s2⟩ := s
    obtain ⟨i, e1, h1, hM2, hA2, en2⟩ := p
    dsimp only at e1 hM2 hA2 en2
    subst e1
    dsimp only
    obtain ⟨m, m12, em⟩ := hM2.n (k := 69) (j := sc) (hi := 12) rfl
    refine t_be (rI_n (by omega) (by omega)) ?_
    rw [em]
    refine t_ite (fun c => ?_) (fun c => ?_)
    · exact t_ret (show MI false I0 s2 ∧ A9 s2 from ⟨hM2, hA2⟩)
    · have c := mt (nI_leI (a := m) (b := i) (by omega) (by omega)).mpr c
      rw [a12, L5, nI_mul, L1, L2, L3, L4, nI_add, nI_add, nI_add, nI_add]
      refine t_be (rI_n (by omega) (by omega)) (t_be (rI_n (by omega) (by omega)) (t_be (rI_n (by omega) (by omega)) (t_be (rI_n (by omega) (by omega)) (t_be (rI_n (by omega) (by omega)) ?_))))
      refine t_bindE (tfX9_whyNot _ _ _ _ _ s2 hM2) (fun v ev pv => ?_)
      refine t_ite (fun c2 => ?_) (fun c2 => ?_)
      · rw [if_neg (by decide)]
        refine t_be (rI_n (by omega) (by omega)) (t_be (rI_n (by omega) (by omega)) (t_be (rI_n (by omega) (by omega)) (t_be (rI_n (by omega) (by omega)) (t_be (rI_n (by omega) (by omega)) ?_))))
        rw [show v = -1 from c2] at ev
        obtain ⟨A, hA4, eA⟩ := hM2.n (k := 62) (j := 29) (hi := 40) rfl
        obtain ⟨L, hL, eL⟩ := hM2.n (k := 70) (j := 150) (hi := 60) rfl
        obtain ⟨w', hw'⟩ := n_can hM2 hn en2 ev
        obtain ⟨I9, rj, v', r, j1, j2, e, r1, r2, _, _, _, _, _, _, _, f1, f2, _⟩ := n_act hM2 hA2 hn en2 hA4 eA hL eL hw'
        refine t_be e ?_
        unfold bX9_goSteps_178
        refine t_nx ?_ (by show 20 - (nI i + nI 1).toInt.toNat < 20 - (nI i).toInt.toNat; rw [nI_add, nIt (by omega), nIt (by omega)]; omega)
        exact ⟨i + 1, nI_1 i, by omega, r1, r2, (f1 17 (by omega) (by omega) (by omega) (by omega)).trans en2⟩
      · exact t_ret (show MI false I0 s2 ∧ A9 s2 from ⟨hM2, hA2⟩)
  obtain ⟨w, e, h⟩ := key
  unfold fX9_goSteps
  rw [L0, e, obs]
  rcases w with w | w
  · exact t_ret h
  · have h : MI false I0 w ∧ A9 w := h
    exact t_be (rI_n (by omega) (by omega)) (t_ret h)
/-- what acts leave of the numbers behind the live ones -/
theorem Act9.hi {n : Nat} {wd w w' : Nat → Int32} {s a x y z : Int32} (h : Act9 n wd w s a x y z w') (hn : n ≤ 4) : ∀ j, 150 ≤ j → w' j = w j := by
  intro j hj
  rcases h with ⟨_, t, m, i, h1, h2, h3, h4, h5, h6, h7, rfl⟩ | ⟨_, t, m, i, h1, h2, h3, h4, h5, h6, h7, h8, rfl⟩ | ⟨_, t, h1, h2, h3, rfl⟩ | ⟨_, _, _, o, h1, h2, h3, h4, rfl⟩
  · have := h6.1
    unfold insW
    rw [if_neg (by omega), if_neg (by omega), if_neg (by omega), if_neg (by omega), if_neg (by omega)]
  · unfold delW
    rw [if_neg (by omega), if_neg (by omega)]
  · dsimp only; rw [if_neg (by omega)]
  · dsimp only; rw [if_neg (by omega)]
theorem n_goSteps0 {I0 I : gM} (hM : MI false I0 I) {sc : Nat} (hs : sc < 4) : T (fX9_goSteps (nI sc) (nI 0) I) (fun r => MI false I0 r.2 ∧ (∀ k, k ≠ 70 → r.2 k = I k) ∧ ∀ j, 150 ≤ j → r.2 70 j = I 70 j) := by
  obtain ⟨n, hn, en⟩ := hM.tn
  have key : T (lX9_goSteps_2 (nI sc) (nI 0) (nI 0, I)) (Sum.elim (fun r : Int32 × gM => MI false I0 r.2 ∧ (∀ k, k ≠ 70 → r.2 k = I k) ∧ ∀ j, 150 ≤ j → r.2 70 j = I 70 j) (fun r : gM => MI false I0 r ∧ (∀ k, k ≠ 70 → r k = I k) ∧ ∀ j, 150 ≤ j → r 70 j = I 70 j)) := by
    unfold lX9_goSteps_2
    refine t_it (P := fun s => ∃ i, s.1 = nI i ∧ i ≤ 12 ∧ MI false I0 s.2 ∧ (∀ k, k ≠ 70 → s.2 k = I k) ∧ ∀ j, 150 ≤ j → s.2 70 j = I 70 j) (μ := fun s => 20 - s.1.toInt.toNat) (fun s p => ?_) ⟨0, rfl, by omega, hM, fun _ _ => rfl, fun _ _ => rfl⟩
    obtain ⟨s1, s2⟩ := s
    obtain ⟨i, e1, h1, hM2, f1, f2⟩ := p
    dsimp only at e1 hM2 f1 f2
    subst e1
    dsimp only
    have en2 : s2 62 17 = nI n := by rw [f1 62 (by omega)]; exact en
    obtain ⟨m, m12, em⟩ := hM2.n (k := 69) (j := sc) (hi := 12) rfl
    refine t_be (rI_n (by omega) (by omega)) ?_
    rw [em]
    refine t_ite (fun c => ?_) (fun c => ?_)
    · exact t_ret (show MI false I0 s2 ∧ (∀ k, k ≠ 70 → s2 k = I k) ∧ ∀ j, 150 ≤ j → s2 70 j = I 70 j from ⟨hM2, f1, f2⟩)
    · have c := mt (nI_leI (a := m) (b := i) (by omega) (by omega)).mpr c
      rw [a12, L5, nI_mul, L1, L2, L3, L4, nI_add, nI_add, nI_add, nI_add]
      refine t_be (rI_n (by omega) (by omega)) (t_be (rI_n (by omega) (by omega)) (t_be (rI_n (by omega) (by omega)) (t_be (rI_n (by omega) (by omega)) (t_be (rI_n (by omega) (by omega)) ?_))))
      refine t_bindE (tfX9_whyNot _ _ _ _ _ s2 hM2) (fun v ev pv => ?_)
      refine t_ite (fun c2 => ?_) (fun c2 => ?_)
      · rw [if_pos (by decide)]
        refine t_be (rI_n (by omega) (by omega)) (t_be (rI_n (by omega) (by omega)) (t_be (rI_n (by omega) (by omega)) (t_be (rI_n (by omega) (by omega)) (t_be (rI_n (by omega) (by omega)) ?_))))
        rw [show v = -1 from c2] at ev
        obtain ⟨w', hw'⟩ := n_can hM2 hn en2 ev
        obtain ⟨v', r, e, r1, r2, r3, _⟩ := n_doNow hM2 hn en2 hw'
        refine t_be e ?_
        unfold bX9_goSteps_178
        refine t_nx ?_ (by show 20 - (nI i + nI 1).toInt.toNat < 20 - (nI i).toInt.toNat; rw [nI_add, nIt (by omega), nIt (by omega)]; omega)
        exact ⟨i + 1, nI_1 i, by omega, r1, fun k hk => (r2 k hk).trans (f1 k hk), fun j hj => by show r 70 j = _; rw [r3, hw'.hi hn j hj]; exact f2 j hj⟩
      · exact t_ret (show MI false I0 s2 ∧ (∀ k, k ≠ 70 → s2 k = I k) ∧ ∀ j, 150 ≤ j → s2 70 j = I 70 j from ⟨hM2, f1, f2⟩)
  obtain ⟨w, e, h⟩ := key
  unfold fX9_goSteps
  rw [show ((0 : Int32), I) = (nI 0, I) from rfl, e, obs]
  rcases w with w | w
  · exact t_ret h
  · have h : MI false I0 w ∧ (∀ k, k ≠ 70 → w k = I k) ∧ ∀ j, 150 ≤ j → w 70 j = I 70 j := h
    exact t_be (rI_n (by omega) (by omega)) (t_ret h)
theorem n_isScript {I : gM} {m : Nat} (hm : m ≤ 4) (e : I 62 12 = nI m) (v : Int32) : (∃ t, t < m ∧ v = nI t ∧ fX9_isScript v I = some 1) ∨ ((∀ t, t < m → v ≠ nI t) ∧ fX9_isScript v I = some 0) := by
  have en : (I 62 12 - 1).toInt = (m : Int) - 1 := by rw [e]; exact tS (tnI (by omega)) t1i (by omega) (by omega)
  unfold fX9_isScript
  rcases n_in v 0 (I 62 12 - 1) with ⟨h1, h2, h3⟩ | ⟨h1, h3⟩
  · rw [h3, obs, bO_1, obs]
    rw [t0i] at h1
    exact Or.inl ⟨v.toInt.toNat, by omega, nI_self h1, rfl⟩
  · rw [h3, obs, bO_0, obs]
    refine Or.inr ⟨fun t ht hv => h1 ?_, rfl⟩
    rw [hv, tnI (by omega), t0i]; omega
theorem n_perform {I0 I : gM} (hM : MI false I0 I) (hA : A9 I) (v : Int32) : T (fX9_perform v I) (fun r => MI false I0 r.2 ∧ A9 r.2) := by
  obtain ⟨n, hn, en⟩ := hM.tn
  obtain ⟨m, hm, em⟩ := hM.n (k := 62) (j := 12) (hi := 4) rfl
  unfold fX9_perform
  rcases n_isScript hm em v with ⟨t, t1, rfl, e⟩ | ⟨t1, e⟩
  · rw [e, obs, if_neg (by decide), n_areTables hn en, obs]
    by_cases c : n = 0
    · rw [if_pos c, if_pos rfl]; exact t_ret ⟨hM, hA⟩
    · rw [if_neg c, if_neg (by decide)]
      exact t_bind (n_goSteps1 hM hA (by omega)) (fun r h => t_ret h)
  · rw [e, obs, if_pos rfl]; exact t_ret ⟨hM, hA⟩
/-- brought back: as it was -/
theorem n_again {I0 I r r2 : gM} (hM : MI false I0 I) (hA : A9 I) (M2 : MI false I0 r2) (h88 : ∀ a, a < 150 → r 88 a = I 70 a) (h70 : ∀ a, a < 150 → r2 70 a = r 88 a) (hhi : ∀ j, 150 ≤ j → r2 70 j = I 70 j) (hk : ∀ k, k = 72 ∨ k = 81 ∨ k = 89 → r2 k = I k) (h17 : r2 62 17 = I 62 17) (h29 : r2 62 29 = I 62 29) (h42 : r2 62 42 = I 62 42) : MI false I0 r2 ∧ A9 r2 := by
  have e70 : r2 70 = I 70 := by
    funext a
    by_cases c : a < 150
    · rw [h70 a c, h88 a c]
    · exact hhi a (by omega)
  refine ⟨M2, hA.same h17 h29 h42 (fun k q => ?_)⟩
  rcases q with rfl | q
  · exact e70
  · exact hk k q
theorem n_run {I0 I : gM} (hM : MI false I0 I) (hA : A9 I) (v1 v2 : Int32) : T (fX9_run v1 v2 I) (fun r => MI false I0 r.2 ∧ A9 r.2) := by
  obtain ⟨n, hn, en⟩ := hM.tn
  obtain ⟨m, hm, em⟩ := hM.n (k := 62) (j := 12) (hi := 4) rfl
  unfold fX9_run
  rcases n_isScript hm em v1 with ⟨t, t1, rfl, e⟩ | ⟨t1, e⟩
  · rw [e, obs, if_neg (by decide), n_areTables hn en, obs]
    by_cases c : n = 0
    · rw [if_pos c, if_pos rfl]; exact t_ret ⟨hM, hA⟩
    · rw [if_neg c, if_neg (by decide)]
      rcases n_in v2 0 1 with ⟨h1, h2, h3⟩ | ⟨h1, h3⟩
      · rw [h3, obs, if_neg (by decide)]
        obtain ⟨p, ep, p1, p2, p3⟩ := n_putAside hM
        refine t_be ep (t_bind (n_goSteps0 p1 (by omega)) (fun g pg => ?_))
        obtain ⟨g1, g2, g3⟩ := pg
        obtain ⟨q, _, eq, q1, _, q3, q4⟩ := n_rowsNow g1
        refine t_be eq ?_
        obtain ⟨b, eb, b1, b2, b3⟩ := n_bringBack q1
        refine t_be eb ?_
        have ok : MI false I0 b ∧ A9 b := n_again hM hA b1 (r := q) (fun a ha => by rw [q3 88 (by omega) (by omega) (by omega) (by omega) (by omega) (by omega) (by omega) (by omega), g2 88 (by omega)]; exact p2 a ha) (fun a ha => by rw [b2, if_pos ha]) (fun j hj => by rw [b2, if_neg (by omega), q3 70 (by omega) (by omega) (by omega) (by omega) (by omega) (by omega) (by omega) (by omega), g3 j hj, p3 70 (by omega)]) (fun k hk => by rw [b3 k (by omega), q3 k (by omega) (by omega) (by omega) (by omega) (by omega) (by omega) (by omega) (by omega), g2 k (by omega), p3 k (by omega)]) (by rw [b3 62 (by omega), q4 17 (by omega) (by omega) (by omega), g2 62 (by omega), p3 62 (by omega)]) (by rw [b3 62 (by omega), q4 29 (by omega) (by omega) (by omega), g2 62 (by omega), p3 62 (by omega)]) (by rw [b3 62 (by omega), q4 42 (by omega) (by omega) (by omega), g2 62 (by omega), p3 62 (by omega)])
        refine t_ite (fun c2 => t_ret ok) (fun c2 => ?_)
        refine t_be (rI_n (by omega) (by omega)) ?_
        exact t_ite (fun c3 => t_ret ok) (fun c3 => t_ret ok)
      · rw [h3, obs, if_pos rfl]; exact t_ret ⟨hM, hA⟩
  · rw [e, obs, if_pos rfl]; exact t_ret ⟨hM, hA⟩
theorem n_would {I0 I : gM} (hM : MI false I0 I) (hA : A9 I) (v1 v2 v3 v4 v5 : Int32) : T (fX9_would v1 v2 v3 v4 v5 I) (fun r => MI false I0 r.2 ∧ A9 r.2) := by
  obtain ⟨n, hn, en⟩ := hM.tn
  unfold fX9_would
  refine t_bindE (tfX9_whyPut v1 v2 v3 v4 I hM) (fun v ev pv => ?_)
  refine t_ite (fun c => ?_) (fun c => t_ret ⟨hM, hA⟩)
  rcases n_in v5 0 1 with ⟨h1, h2, h3⟩ | ⟨h1, h3⟩
  · rw [h3, obs, if_neg (by decide)]
    rw [c] at ev
    obtain ⟨w', hw'⟩ := n_can hM hn en (s := 0) (a := v1) (x := v2) (y := v3) (z := v4) (by unfold fX9_whyNot; rw [if_pos rfl, ev, obs])
    obtain ⟨p, ep, p1, p2, p3⟩ := n_putAside hM
    obtain ⟨vv, g, eg, g1, g2, g3, _⟩ := n_doNow p1 hn (by rw [p3 62 (by omega)]; exact en) (s := 0) (a := v1) (x := v2) (y := v3) (z := v4) (w' := w') (by rw [p3 70 (by omega), p3 72 (by omega)]; exact hw')
    have eg2 : fX9_putsNow v1 v2 v3 v4 p = some (vv, g) := by
      unfold fX9_doNow at eg
      rw [if_pos rfl] at eg
      obtain ⟨r', e1, e2⟩ := ob eg
      rw [e1]; exact e2
    obtain ⟨q, eq, _, q1, _, q3, q4⟩ := n_rowsNow g1
    obtain ⟨b, eb, b1, b2, b3⟩ := n_bringBack q1
    refine t_be ep (t_be eg2 (t_be eq (t_be eb ?_)))
    have ok : MI false I0 b ∧ A9 b := n_again hM hA b1 (r := q) (fun a ha => by rw [q3 88 (by omega) (by omega) (by omega) (by omega) (by omega) (by omega) (by omega) (by omega), g2 88 (by omega)]; exact p2 a ha) (fun a ha => by rw [b2, if_pos ha]) (fun j hj => by rw [b2, if_neg (by omega), q3 70 (by omega) (by omega) (by omega) (by omega) (by omega) (by omega) (by omega) (by omega), g3, hw'.hi hn j hj]) (fun k hk => by rw [b3 k (by omega), q3 k (by omega) (by omega) (by omega) (by omega) (by omega) (by omega) (by omega) (by omega), g2 k (by omega), p3 k (by omega)]) (by rw [b3 62 (by omega), q4 17 (by omega) (by omega) (by omega), g2 62 (by omega), p3 62 (by omega)]) (by rw [b3 62 (by omega), q4 29 (by omega) (by omega) (by omega), g2 62 (by omega), p3 62 (by omega)]) (by rw [b3 62 (by omega), q4 42 (by omega) (by omega) (by omega), g2 62 (by omega), p3 62 (by omega)])
    exact t_ite (fun c3 => t_ret ok) (fun c3 => t_ret ok)
  · rw [h3, obs, if_pos rfl]; exact t_ret ⟨hM, hA⟩
end P_29d_hand9
section P_29e_query9
/-! the reference: what is counted of the join -/
theorem n_isAsked {I0 I : gM} (hM : MI false I0 I) {n : Nat} (hn : n ≤ 4) (en : I 62 17 = nI n) (v : Int32) : (∃ l, l < 4 ∧ v = nI l ∧ ask9 I n l ∧ 0 < n ∧ fX9_isAsked v I = some 1) ∨ ((∀ l, l < 4 → v = nI l → ¬ ask9 I n l) ∧ fX9_isAsked v I = some 0) := by
  unfold fX9_isAsked
  rw [n_areTables hn en, obs]
  by_cases c : n = 0
  · rw [if_pos c, if_pos rfl]
    refine Or.inr ⟨fun l _ _ h => ?_, rfl⟩
    obtain ⟨t, a, _⟩ := h
    omega
  · rw [if_neg c, if_neg (by decide)]
    have t3 : (3 : Int32).toInt = 3 := by decide
    rcases n_in v 0 3 with ⟨h1, h2, h3⟩ | ⟨h1, h3⟩
    · rw [h3, obs, if_neg (by decide)]
      rw [t0i] at h1
      rw [t3] at h2
      obtain ⟨am, am1, ea, am2⟩ := n_asked hM hn en
      have ev := nI_self h1
      have l4 : v.toInt.toNat < 4 := by omega
      generalize v.toInt.toNat = l at ev l4
      subst ev
      rw [ea, obs]
      by_cases b : am.testBit l = true
      · rw [n_has1 ((hs_nI am1 l4).mpr b), obs, if_neg (by decide)]
        exact Or.inl ⟨l, l4, rfl, (am2 l l4).mp b, by omega, rfl⟩
      · rw [n_has0 (mt (hs_nI am1 l4).mp b), obs, if_pos rfl]
        refine Or.inr ⟨fun l' h4 e h => b ?_, rfl⟩
        rw [nI_inj e (by omega) (by omega)]
        exact (am2 l' h4).mpr h
    · rw [h3, obs, if_pos rfl]
      rw [t0i, t3] at h1
      refine Or.inr ⟨fun l h4 e _ => h1 ?_, rfl⟩
      rw [e, tnI (by omega)]; omega
/-- a letter asked: a table's column of it -/
theorem ask_col {I0 I : gM} (hM : MI false I0 I) {n l : Nat} (hn : n ≤ 4) (hl : l < 4) (h : ask9 I n l) : ∃ t c, t < n ∧ c < 3 ∧ hs (I 70 0) t ∧ c < (I 72 t).toInt.toNat ∧ CO (I 72 t).toInt.toNat (fun c => I 73 (3 * t + c)) (nI l) (nI c) := by
  obtain ⟨t, t1, t2, c, c1, c2⟩ := h
  have w3 := hM.wd t (by omega)
  obtain ⟨c', a, b, d⟩ := least (P := fun c => I 73 (3 * t + c) = nI l) ⟨c, c1, c2⟩
  exact ⟨t, c', t1, by omega, t2, a, Or.inl ⟨c', a, rfl, b, d⟩⟩
theorem joined_nn {I0 I : gM} (hM : MI false I0 I) (hG : GJ9 I) {n l j J : Nat} (hn : n ≤ 4) (en : I 62 17 = nI n) (hJ : J ≤ 20736) (eJ : I 62 26 = nI J) (ok : okW n (I 72) (I 70)) (hl : l < 4) (h : ask9 I n l) (hj : j < J) : 0 ≤ (I 80 (4 * j + l)).toInt := by
  obtain ⟨n', J', g1, g2, g3, g4, g5⟩ := hG
  obtain rfl := nI_inj (g3.symm.trans en) (by omega) (by omega)
  obtain rfl := nI_inj (g4.symm.trans eJ) (by omega) (by omega)
  obtain ⟨t, c, t1, c1, t2, c2, co⟩ := ask_col hM hn hl h
  obtain ⟨i, i1, i2⟩ := g5 j hj l hl t t1 t2 c c1 co
  rw [← i2]
  exact ok t t1 i i1 c c2
theorem n_isTold2 {I0 I : gM} (hM : MI false I0 I) : T (lX9_isTold_2 (nI 0, I)) (fun r => MI false I0 r ∧ (∀ a, a < 100 → r 86 a = -1) ∧ ∀ k, k ≠ 86 → r k = I k) := by
  unfold lX9_isTold_2
  refine t_it (P := fun s => ∃ a, s.1 = nI a ∧ a ≤ 100 ∧ MI false I0 s.2 ∧ (∀ a', a' < a → s.2 86 a' = -1) ∧ ∀ k, k ≠ 86 → s.2 k = I k) (μ := fun s => 500 - s.1.toInt.toNat) (fun s p => ?_) ⟨0, rfl, by omega, hM, fun a h => by omega, fun _ _ => rfl⟩
  obtain ⟨s1, s2⟩ := s
  obtain ⟨a, e1, h1, hM2, h2, h3⟩ := p
  dsimp only at e1 hM2 h2 h3
  subst e1
  dsimp only
  refine t_ite (fun c => ?_) (fun c => ?_)
  · have c := (nI_leI (a := 100) (by omega) (by omega)).mp c
    exact t_ret ⟨hM2, fun a' h => h2 a' (by omega), h3⟩
  · have c := mt (nI_leI (a := 100) (b := a) (by omega) (by omega)).mpr c
    refine t_be (wI_n (by omega) (by omega)) ?_
    refine t_nx ?_ (by show 500 - (nI a + 1).toInt.toNat < 500 - (nI a).toInt.toNat; rw [nI_1, nIt (by omega), nIt (by omega)]; omega)
    dsimp only
    refine ⟨a + 1, nI_1 a, by omega, hM2.up (k := 86) rfl (lo := -2147483648) (hi := 2147483647) rfl (tTop _).1 (tTop _).2, fun a' h => ?_, fun k hk => ?_⟩
    · rw [gu_in]
      by_cases z : a' = a
      · rw [if_pos z]
      · rw [if_neg z]; exact h2 a' (by omega)
    · rw [g_up_row hk]; exact h3 k hk
theorem n_numberOf {I : gM} {j l : Nat} (hj : j < 20736) (hl : l < 4) : fX9_numberOf (nI j) (nI l) I = some (I 80 (4 * j + l)) := by
  unfold fX9_numberOf
  rw [a4, rI_n (by omega) (by omega), obs]
theorem n_isTold {I0 I : gM} (hM : MI false I0 I) (hG : GJ9 I) {n l o : Nat} (hn : n ≤ 4) (en : I 62 17 = nI n) (ok : okW n (I 72) (I 70)) (hl : l < 4) (ho : o < 4) (h : ask9 I n l) : T (fX9_isTold (nI l) (nI o) I) (fun r => (r.1 = 0 ∨ r.1 = 1) ∧ MI false I0 r.2 ∧ ∀ k, k ≠ 86 → r.2 k = I k) := by
  obtain ⟨J, hJ, eJ⟩ := hM.n (k := 62) (j := 26) (hi := 20736) rfl
  have nn : ∀ j, j < J → ∃ v, v < 100 ∧ I 80 (4 * j + l) = nI v := fun j hj => by
    have h0 := joined_nn hM hG hn en hJ eJ ok hl h hj
    have h1 := hM.at (k := 80) (j := 4 * j + l) (lo := -1) (hi := 99) rfl
    exact ⟨_, by omega, nI_self h0⟩
  unfold fX9_isTold
  refine t_bind (n_isTold2 hM) (fun a pa => ?_)
  obtain ⟨a1, a2, a3⟩ := pa
  refine t_bind (P := fun w : Int32 × gM => (w.1 = 0 ∨ w.1 = 1) ∧ MI false I0 w.2 ∧ ∀ k, k ≠ 86 → w.2 k = I k) ?_ (fun w pw => ?_)
  · unfold lX9_isTold_26
    refine t_it (P := fun s => ∃ j, s.2.1 = nI j ∧ j ≤ J ∧ (s.1 = 0 ∨ s.1 = 1) ∧ MI false I0 s.2.2 ∧ ∀ k, k ≠ 86 → s.2.2 k = I k) (μ := fun s => 20800 - s.2.1.toInt.toNat) (fun s p => ?_) ⟨0, rfl, by omega, Or.inr rfl, a1, a3⟩
    obtain ⟨s1, s2, s3⟩ := s
    obtain ⟨j, e1, h1, h2, hM2, h3⟩ := p
    dsimp only at e1 h2 hM2 h3
    subst e1
    dsimp only
    have e26 : s3 62 26 = nI J := by rw [h3 62 (by omega)]; exact eJ
    refine t_ite (fun c => ?_) (fun c => ?_)
    · exact t_ret ⟨h2, hM2, h3⟩
    · rw [e26] at c
      have c := mt (nI_leI (a := J) (b := j) (by omega) (by omega)).mpr c
      obtain ⟨v, v1, ev⟩ := nn j (by omega)
      have mu : 20800 - (nI j + 1).toInt.toNat < 20800 - (nI j).toInt.toNat := by rw [nI_1, nIt (by omega), nIt (by omega)]; omega
      rw [n_numberOf (by omega) hl, obs, h3 80 (by omega), ev]
      have nx : ∀ b : Int32, (b = 0 ∨ b = 1) → T (bX9_isTold_81 (nI o) (nI j) (nI v) b s3) (LQ (fun s => ∃ j, s.2.1 = nI j ∧ j ≤ J ∧ (s.1 = 0 ∨ s.1 = 1) ∧ MI false I0 s.2.2 ∧ ∀ k, k ≠ 86 → s.2.2 k = I k) (20800 - (nI j).toInt.toNat) (fun s => 20800 - s.2.1.toInt.toNat) (fun w : Int32 × gM => (w.1 = 0 ∨ w.1 = 1) ∧ MI false I0 w.2 ∧ ∀ k, k ≠ 86 → w.2 k = I k)) := fun b hb => by
        unfold bX9_isTold_81
        rw [n_numberOf (by omega) ho, obs]
        refine t_be (wI_n (by omega) (by omega)) ?_
        refine t_nx ?_ mu
        dsimp only
        exact ⟨j + 1, nI_1 j, by omega, hb, hM2.up (k := 86) rfl (lo := -2147483648) (hi := 2147483647) rfl (tTop _).1 (tTop _).2, fun k hk => by rw [g_up_row hk]; exact h3 k hk⟩
      refine t_ite (fun c1 => nx 0 (Or.inl rfl)) (fun c1 => ?_)
      refine t_be (rI_n (by omega) (by omega)) ?_
      refine t_ite (fun c2 => nx 1 (Or.inr rfl)) (fun c2 => ?_)
      refine t_be (rI_n (by omega) (by omega)) ?_
      rw [n_numberOf (by omega) ho, obs]
      exact t_ite (fun c3 => nx 1 (Or.inr rfl)) (fun c3 => nx 0 (Or.inl rfl))
  · obtain ⟨w1, w2⟩ := pw
    rcases w1 with z | z
    · rw [z, bO_0, obs]; exact t_ret ⟨Or.inl rfl, w2⟩
    · rw [z, bO_1, obs]; exact t_ret ⟨Or.inr rfl, w2⟩
theorem ask9.cong {I r : gM} {n l : Nat} (h : ask9 I n l) (h70 : r 70 = I 70) (h72 : r 72 = I 72) (h73 : r 73 = I 73) : ask9 r n l := by
  unfold ask9
  rw [h70, h72, h73]; exact h
theorem okW_of {I : gM} {n : Nat} (hA : A9 I) (hn : n ≤ 4) (en : I 62 17 = nI n) : okW n (I 72) (I 70) := by
  have := hA.1
  rwa [en, nIt (by omega)] at this
theorem n_tells {I0 I : gM} (hM : MI false I0 I) (hA : A9 I) (v1 v2 : Int32) : T (fX9_tells v1 v2 I) (fun r => MI false I0 r.2 ∧ A9 r.2) := by
  obtain ⟨n, hn, en⟩ := hM.tn
  unfold fX9_tells
  rcases n_isAsked hM hn en v1 with ⟨l, l4, rfl, la, _, e1⟩ | ⟨_, e1⟩
  · rw [e1, obs, if_neg (by decide)]
    rcases n_isAsked hM hn en v2 with ⟨o, o4, rfl, oa, _, e2⟩ | ⟨_, e2⟩
    · rw [e2, obs, if_neg (by decide)]
      obtain ⟨r, er, _, r1, r2, r3, r4⟩ := n_rowsNow hM
      have Ar := hA.join r3 r4
      have en' : r 62 17 = nI n := by rw [r4 17 (by omega) (by omega) (by omega)]; exact en
      refine t_be er (t_bind (n_isTold r1 r2 hn en' (okW_of Ar hn en') l4 o4 (la.cong (r3 70 (by omega) (by omega) (by omega) (by omega) (by omega) (by omega) (by omega) (by omega)) (r3 72 (by omega) (by omega) (by omega) (by omega) (by omega) (by omega) (by omega) (by omega)) (r3 73 (by omega) (by omega) (by omega) (by omega) (by omega) (by omega) (by omega) (by omega)))) (fun w pw => ?_))
      obtain ⟨w1, w2, w3⟩ := pw
      have ok : MI false I0 w.2 ∧ A9 w.2 := ⟨w2, Ar.same (by rw [w3 62 (by omega)]) (by rw [w3 62 (by omega)]) (by rw [w3 62 (by omega)]) (fun k hk => w3 k (by omega))⟩
      rcases w1 with z | z
      · rw [z, bO_0, obs]; exact t_ret ok
      · rw [z, bO_1, obs]; exact t_ret ok
    · rw [e2, obs, if_pos rfl]; exact t_ret ⟨hM, hA⟩
  · rw [e1, obs, if_pos rfl]; exact t_ret ⟨hM, hA⟩
theorem n_couples {I0 I : gM} (hM : MI false I0 I) (hG : GJ9 I) (hA : A9 I) : T (fX9_couples I) (fun r => MI false I0 r.2 ∧ ∀ k, k ≠ 86 → r.2 k = I k) := by
  obtain ⟨n, hn, en⟩ := hM.tn
  unfold fX9_couples
  refine t_bind (P := fun w : Int32 × gM => MI false I0 w.2 ∧ ∀ k, k ≠ 86 → w.2 k = I k) ?_ (fun w pw => t_ret pw)
  unfold lX9_couples_4
  refine t_it (P := fun s => ∃ l, s.2.1 = nI l ∧ l ≤ 4 ∧ MI false I0 s.2.2 ∧ ∀ k, k ≠ 86 → s.2.2 k = I k) (μ := fun s => 20 - s.2.1.toInt.toNat) (fun s p => ?_) ⟨0, rfl, by omega, hM, fun _ _ => rfl⟩
  obtain ⟨s1, s2, s3⟩ := s
  obtain ⟨l, e1, h1, hM2, h2⟩ := p
  dsimp only at e1 hM2 h2
  subst e1
  dsimp only
  refine t_ite (fun c => t_ret ⟨hM2, h2⟩) (fun c => ?_)
  have c := mt (nI_leI (a := 4) (b := l) (by omega) (by omega)).mpr c
  refine t_bind (P := fun w : Int32 × gM => MI false I0 w.2 ∧ ∀ k, k ≠ 86 → w.2 k = I k) ?_ (fun w pw => ?_)
  · unfold lX9_couples_11
    refine t_it (P := fun s => ∃ o, s.2.1 = nI o ∧ o ≤ 4 ∧ MI false I0 s.2.2 ∧ ∀ k, k ≠ 86 → s.2.2 k = I k) (μ := fun s => 20 - s.2.1.toInt.toNat) (fun s p => ?_) ⟨0, rfl, by omega, hM2, h2⟩
    obtain ⟨u1, u2, u3⟩ := s
    obtain ⟨o, e1, g1, hM3, g2⟩ := p
    dsimp only at e1 hM3 g2
    subst e1
    dsimp only
    refine t_ite (fun c => t_ret ⟨hM3, g2⟩) (fun c1 => ?_)
    have c1 := mt (nI_leI (a := 4) (b := o) (by omega) (by omega)).mpr c1
    have mu : 20 - (nI o + 1).toInt.toNat < 20 - (nI o).toInt.toNat := by rw [nI_1, nIt (by omega), nIt (by omega)]; omega
    have nx : ∀ (b u : Int32) (I2 : gM), MI false I0 I2 → (∀ k, k ≠ 86 → I2 k = I k) → T (bX9_couples_52 (nI o) b u I2) (LQ (fun s => ∃ o, s.2.1 = nI o ∧ o ≤ 4 ∧ MI false I0 s.2.2 ∧ ∀ k, k ≠ 86 → s.2.2 k = I k) (20 - (nI o).toInt.toNat) (fun s => 20 - s.2.1.toInt.toNat) (fun w : Int32 × gM => MI false I0 w.2 ∧ ∀ k, k ≠ 86 → w.2 k = I k)) := fun b u I2 m1 m2 => by
      unfold bX9_couples_52
      exact t_nx ⟨o + 1, nI_1 o, by omega, m1, m2⟩ mu
    have en3 : u3 62 17 = nI n := by rw [g2 62 (by omega)]; exact en
    refine t_ite (fun c2 => nx _ _ _ hM3 g2) (fun c2 => ?_)
    rcases n_isAsked hM3 hn en3 (nI l) with ⟨l', l4, el, la, _, e1⟩ | ⟨_, e1⟩
    · rw [e1, obs, if_neg (by decide)]
      obtain rfl := nI_inj el (by omega) (by omega)
      rcases n_isAsked hM3 hn en3 (nI o) with ⟨o', o4, eo, oa, _, e2⟩ | ⟨_, e2⟩
      · rw [e2, obs, if_neg (by decide)]
        obtain rfl := nI_inj eo (by omega) (by omega)
        have G3 : GJ9 u3 := hG.same (by rw [g2 62 (by omega)]) (by rw [g2 62 (by omega)]) (fun k hk => g2 k (by omega))
        have ok3 : okW n (u3 72) (u3 70) := by
          rw [g2 70 (by omega), g2 72 (by omega)]; exact okW_of hA hn en
        refine t_bind (n_isTold hM3 G3 hn en3 ok3 l4 o4 la) (fun w pw => ?_)
        obtain ⟨w1, w2, w3⟩ := pw
        have wk : ∀ k, k ≠ 86 → w.2 k = I k := fun k hk => (w3 k hk).trans (g2 k hk)
        exact t_ite (fun c3 => nx _ _ _ w2 wk) (fun c3 => nx _ _ _ w2 wk)
      · rw [e2, obs, if_pos rfl]; exact nx _ _ _ hM3 g2
    · rw [e1, obs, if_pos rfl]; exact nx _ _ _ hM3 g2
  · refine t_nx ?_ (by show 20 - (nI l + 1).toInt.toNat < 20 - (nI l).toInt.toNat; rw [nI_1, nIt (by omega), nIt (by omega)]; omega)
    exact ⟨l + 1, nI_1 l, by omega, pw⟩
/-! how many unlike numbers there can be -/
def qn (val : Nat → Nat) (v : Nat) : Nat → Nat
  | 0 => 0
  | m + 1 => qn val v m + (if val m < v then 1 else 0)
theorem qn_le (val : Nat → Nat) (v : Nat) : ∀ m, qn val v m ≤ m := by
  intro m
  induction m with
  | zero => exact Nat.le_refl _
  | succ m ih => unfold qn; split <;> omega
theorem qn_up (val : Nat → Nat) (v : Nat) : ∀ m, qn val v m ≤ qn val (v + 1) m ∧ ((∃ i, i < m ∧ val i = v) → qn val v m + 1 ≤ qn val (v + 1) m) := by
  intro m
  induction m with
  | zero => exact ⟨Nat.le_refl _, fun ⟨i, h, _⟩ => by omega⟩
  | succ m ih =>
    obtain ⟨h1, h2⟩ := ih
    have e1 : qn val v (m + 1) = qn val v m + (if val m < v then 1 else 0) := rfl
    have e2 : qn val (v + 1) (m + 1) = qn val (v + 1) m + (if val m < v + 1 then 1 else 0) := rfl
    rw [e1, e2]
    constructor
    · split <;> split <;> omega
    · rintro ⟨i, i1, i2⟩
      rcases (by omega : i < m ∨ i = m) with z | z
      · have := h2 ⟨i, z, i2⟩
        split <;> split <;> omega
      · subst z
        rw [if_neg (by omega), if_pos (by omega)]; omega
theorem cntJ_pos {K : Nat → Int32} {l v : Nat} : ∀ {J : Nat}, 0 < cntJ K l v J → ∃ j, j < J ∧ mx0 (K (4 * j + l)) = v := by
  intro J
  induction J with
  | zero => intro h; exact absurd h (by unfold cntJ; omega)
  | succ J ih =>
    intro h
    unfold cntJ at h
    by_cases c : mx0 (K (4 * J + l)) = v
    · exact ⟨J, by omega, c⟩
    · rw [if_neg c] at h
      obtain ⟨j, a, b⟩ := ih h
      exact ⟨j, by omega, b⟩
theorem cntJ_has {K : Nat → Int32} {l j : Nat} : ∀ {J : Nat}, j < J → 0 < cntJ K l (mx0 (K (4 * j + l))) J := by
  intro J
  induction J with
  | zero => intro h; omega
  | succ J ih =>
    intro h
    unfold cntJ
    rcases (by omega : j < J ∨ j = J) with z | z
    · have := ih z; omega
    · subst z; rw [if_pos rfl]; omega
theorem cdJ_qn {K : Nat → Int32} {l J m : Nat} {val : Nat → Nat} (h : ∀ j, j < J → ∃ i, i < m ∧ val i = mx0 (K (4 * j + l))) : ∀ v, cdJ K l J v ≤ qn val v m := by
  intro v
  induction v with
  | zero => exact Nat.zero_le _
  | succ v ih =>
    have e : cdJ K l J (v + 1) = cdJ K l J v + (if 0 < cntJ K l v J then 1 else 0) := rfl
    obtain ⟨h1, h2⟩ := qn_up val v m
    rw [e]
    by_cases c : 0 < cntJ K l v J
    · rw [if_pos c]
      obtain ⟨j, a, b⟩ := cntJ_pos c
      obtain ⟨i, i1, i2⟩ := h j a
      have := h2 ⟨i, i1, i2.trans b⟩
      omega
    · rw [if_neg c]; omega
theorem cd_12 {I0 I : gM} (hM : MI false I0 I) (hG : GJ9 I) {n l J : Nat} (hn : n ≤ 4) (en : I 62 17 = nI n) (hJ : J ≤ 20736) (eJ : I 62 26 = nI J) (hl : l < 4) (h : ask9 I n l) : ∀ v, cdJ (I 80) l J v ≤ 12 := by
  obtain ⟨n', J', g1, g2, g3, g4, g5⟩ := hG
  obtain rfl := nI_inj (g3.symm.trans en) (by omega) (by omega)
  obtain rfl := nI_inj (g4.symm.trans eJ) (by omega) (by omega)
  obtain ⟨t, c, t1, c1, t2, c2, co⟩ := ask_col hM hn hl h
  intro v
  have h1 := cdJ_qn (K := I 80) (l := l) (J := J') (m := (I 70 (2 + t)).toInt.toNat) (val := fun i => mx0 (I 70 (6 + 3 * (12 * t + i) + c))) (fun j hj => by
    obtain ⟨i, i1, i2⟩ := g5 j hj l hl t t1 t2 c c1 co
    exact ⟨i, i1, by show mx0 _ = _; rw [i2]⟩) v
  have h2 := qn_le (fun i => mx0 (I 70 (6 + 3 * (12 * t + i) + c))) v (I 70 (2 + t)).toInt.toNat
  have h3 := (mi_rW hM).m (t := t) (by omega)
  omega
theorem sub_bit : ∀ s, s < 16 → ∀ am, am < 16 → nI s &&& (nI am ^^^ (-1)) = 0 → ∀ l, l < 4 → s.testBit l = true → am.testBit l = true := by decide +kernel
theorem n_projected36 {I0 I : gM} (hM : MI false I0 I) : T (lX9_projected_36 (nI 0, I)) (fun r => MI false I0 r ∧ (∀ a, a < 20736 → r 85 a = 0) ∧ ∀ k, k ≠ 85 → r k = I k) := by
  unfold lX9_projected_36
  refine t_it (P := fun s => ∃ a, s.1 = nI a ∧ a ≤ 20736 ∧ MI false I0 s.2 ∧ (∀ a', a' < a → s.2 85 a' = 0) ∧ ∀ k, k ≠ 85 → s.2 k = I k) (μ := fun s => 21000 - s.1.toInt.toNat) (fun s p => ?_) ⟨0, rfl, by omega, hM, fun a h => by omega, fun _ _ => rfl⟩
  obtain ⟨s1, s2⟩ := s
  obtain ⟨a, e1, h1, hM2, h2, h3⟩ := p
  dsimp only at e1 hM2 h2 h3
  subst e1
  dsimp only
  refine t_ite (fun c => ?_) (fun c => ?_)
  · have c := (nI_leI (a := 20736) (by omega) (by omega)).mp c
    exact t_ret ⟨hM2, fun a' h => h2 a' (by omega), h3⟩
  · have c := mt (nI_leI (a := 20736) (b := a) (by omega) (by omega)).mpr c
    rw [show vp_nar .boolean 0 = 0 by decide]
    refine t_be (wI_n (by omega) (by omega)) ?_
    refine t_nx ?_ (by show 21000 - (nI a + 1).toInt.toNat < 21000 - (nI a).toInt.toNat; rw [nI_1, nIt (by omega), nIt (by omega)]; omega)
    dsimp only
    refine ⟨a + 1, nI_1 a, by omega, hM2.up (k := 85) rfl (lo := 0) (hi := 1) rfl (by decide) (by decide), fun a' h => ?_, fun k hk => ?_⟩
    · rw [gu_in]
      by_cases z : a' = a
      · rw [if_pos z]
      · rw [if_neg z]; exact h2 a' (by omega)
    · rw [g_up_row hk]; exact h3 k hk
/-- the code of a row -/
theorem n_projected74 {I : gM} {n s j J : Nat} {I0 : gM} (hM : MI false I0 I) (hG : GJ9 I) (hC : CT9 I) (hn : n ≤ 4) (en : I 62 17 = nI n) (ok : okW n (I 72) (I 70)) (hJ : J ≤ 20736) (eJ : I 62 26 = nI J) (hs16 : s < 16) (ha : ∀ l, l < 4 → s.testBit l = true → ask9 I n l) (hj : j < J) : ∃ c, c < 20736 ∧ lX9_projected_74 (nI s) (nI j) I (nI 0, nI 0) = some (nI c) := by
  have key : T (lX9_projected_74 (nI s) (nI j) I (nI 0, nI 0)) (fun r => ∃ c, r = nI c ∧ c < 20736) := by
    unfold lX9_projected_74
    refine t_it (P := fun x => ∃ c l, x = (nI c, nI l) ∧ l ≤ 4 ∧ c < 12 ^ l) (μ := fun x => 20 - x.2.toInt.toNat) (fun x p => ?_) ⟨0, 0, rfl, by omega, by decide⟩
    obtain ⟨c, l, rfl, h1, h2⟩ := p
    dsimp only
    have mu : 20 - (nI l + 1).toInt.toNat < 20 - (nI l).toInt.toNat := by rw [nI_1, nIt (by omega), nIt (by omega)]; omega
    have pw : 12 ^ (l + 1) = 12 * 12 ^ l := by rw [Nat.pow_succ, Nat.mul_comm]
    refine t_ite (fun c1 => ?_) (fun c1 => ?_)
    · have c1 := (nI_leI (a := 4) (by omega) (by omega)).mp c1
      obtain rfl : l = 4 := by omega
      exact t_ret (show ∃ c', nI c = nI c' ∧ c' < 20736 from ⟨c, rfl, h2⟩)
    · have c1 := mt (nI_leI (a := 4) (b := l) (by omega) (by omega)).mpr c1
      have p4 : 12 ^ l ≤ 12 ^ 4 := Nat.pow_le_pow_right (by omega) (by omega)
      by_cases b : s.testBit l = true
      · rw [n_has1 ((hs_nI hs16 (by omega)).mpr b), obs, if_neg (by decide), n_numberOf (by omega) (by omega), obs]
        have la := ha l (by omega) b
        have h0 := joined_nn hM hG hn en hJ eJ ok (by omega) la hj
        obtain ⟨m1, m2, m3⟩ := mx0_n (hM.at (k := 80) (j := 4 * j + l) (lo := -1) (hi := 99) rfl)
        rw [m3 h0, a100]
        refine t_be (rI_n (by omega) (by omega)) ?_
        obtain ⟨J', _, eJ', _, c3, _⟩ := hC
        obtain rfl := nI_inj (eJ'.symm.trans eJ) (by omega) (by omega)
        rw [c3 l (by omega) _ m2]
        have r1 := cd_12 hM hG hn en hJ eJ (l := l) (by omega) la (mx0 (I 80 (4 * j + l)) + 1)
        have r2 : cdJ (I 80) l J' (mx0 (I 80 (4 * j + l)) + 1) = cdJ (I 80) l J' (mx0 (I 80 (4 * j + l))) + (if 0 < cntJ (I 80) l (mx0 (I 80 (4 * j + l))) J' then 1 else 0) := rfl
        rw [if_pos (cntJ_has hj)] at r2
        rw [a12]
        unfold bX9_projected_118
        exact t_nx ⟨_, l + 1, by rw [nI_1], by omega, by rw [pw]; omega⟩ mu
      · rw [n_has0 (mt (hs_nI hs16 (by omega)).mp b), obs, if_pos rfl]
        unfold bX9_projected_118
        exact t_nx ⟨c, l + 1, by rw [nI_1], by omega, by rw [pw]; omega⟩ mu
  obtain ⟨r, e, c, rfl, hc⟩ := key
  exact ⟨c, hc, e⟩
theorem CT9.same {I r : gM} (h : CT9 I) (h26 : r 62 26 = I 62 26) (hk : ∀ k, k = 80 ∨ k = 82 ∨ k = 83 ∨ k = 84 → r k = I k) : CT9 r := by
  unfold CT9
  rw [h26, hk 80 (by omega), hk 82 (by omega), hk 83 (by omega), hk 84 (by omega)]; exact h
theorem n_projected {I0 I : gM} (hM : MI false I0 I) (hA : A9 I) (v1 : Int32) : T (fX9_projected v1 I) (fun r => MI false I0 r.2 ∧ A9 r.2) := by
  obtain ⟨n, hn, en⟩ := hM.tn
  unfold fX9_projected
  rw [n_areTables hn en, obs]
  by_cases c : n = 0
  · rw [if_pos c, if_pos rfl]; exact t_ret ⟨hM, hA⟩
  rw [if_neg c, if_neg (by decide)]
  have t15 : (15 : Int32).toInt = 15 := by decide
  rcases n_in v1 1 15 with ⟨h1, h2, h3⟩ | ⟨h1, h3⟩
  · rw [h3, obs, if_neg (by decide)]
    rw [t1i] at h1
    rw [t15] at h2
    have ev := nI_self (x := v1) (by omega)
    have s16 : v1.toInt.toNat < 16 := by omega
    generalize v1.toInt.toNat = s at ev s16
    subst ev
    obtain ⟨am, am1, ea, am2⟩ := n_asked hM hn en
    rw [ea, obs]
    refine t_ite (fun c2 => ?_) (fun c2 => t_ret ⟨hM, hA⟩)
    have sub := sub_bit s s16 am am1 c2
    obtain ⟨r0, e0, _, r1, r2, r3, r4⟩ := n_rowsNow hM
    refine t_bind (n_counts hM e0 r1 r2) (fun w pw => ?_)
    obtain ⟨w1, ⟨w2, w3⟩, w4⟩ := pw
    have wk : ∀ k, k = 70 ∨ k = 72 ∨ k = 73 ∨ k = 81 ∨ k = 89 → w k = I k := fun k hk => (w4 k (by omega) (by omega) (by omega)).trans (r3 k (by omega) (by omega) (by omega) (by omega) (by omega) (by omega) (by omega) (by omega))
    have wj : ∀ j, j ≠ 19 → j ≠ 26 → j ≠ 27 → w 62 j = I 62 j := fun j y1 y2 y3 => by rw [w4 62 (by omega) (by omega) (by omega)]; exact r4 j y1 y2 y3
    have Aw : A9 w := hA.same (wj 17 (by omega) (by omega) (by omega)) (wj 29 (by omega) (by omega) (by omega)) (wj 42 (by omega) (by omega) (by omega)) (fun k hk => wk k (by omega))
    have enw : w 62 17 = nI n := by rw [wj 17 (by omega) (by omega) (by omega)]; exact en
    obtain ⟨J, hJ, eJ⟩ := w1.n (k := 62) (j := 26) (hi := 20736) rfl
    refine t_bind (n_projected36 w1) (fun b pb => ?_)
    obtain ⟨b1, b2, b3⟩ := pb
    refine t_bind (P := fun q : Int32 × gM => MI false I0 q.2 ∧ ∀ k, k ≠ 85 → q.2 k = w k) ?_ (fun q pq => t_ret ⟨pq.1, Aw.same (by rw [pq.2 62 (by omega)]) (by rw [pq.2 62 (by omega)]) (by rw [pq.2 62 (by omega)]) (fun k hk => pq.2 k (by omega))⟩)
    unfold lX9_projected_60
    refine t_it (P := fun x => ∃ j, x.2.1 = nI j ∧ j ≤ J ∧ MI false I0 x.2.2 ∧ ∀ k, k ≠ 85 → x.2.2 k = w k) (μ := fun x => 20800 - x.2.1.toInt.toNat) (fun x p => ?_) ⟨0, rfl, by omega, b1, b3⟩
    obtain ⟨s1, s2, s3⟩ := x
    obtain ⟨j, e1, g1, hM2, g2⟩ := p
    dsimp only at e1 hM2 g2
    subst e1
    dsimp only
    have e26 : s3 62 26 = nI J := by rw [g2 62 (by omega)]; exact eJ
    refine t_ite (fun c3 => t_ret ⟨hM2, g2⟩) (fun c3 => ?_)
    rw [e26] at c3
    have c3 := mt (nI_leI (a := J) (b := j) (by omega) (by omega)).mpr c3
    obtain ⟨cd, cd1, cd2⟩ := n_projected74 (I := s3) (s := s) (j := j) hM2 (w2.same (by rw [g2 62 (by omega)]) (by rw [g2 62 (by omega)]) (fun k hk => g2 k (by omega))) (w3.same (by rw [g2 62 (by omega)]) (fun k hk => g2 k (by omega))) hn (by rw [g2 62 (by omega)]; exact enw) (by rw [g2 70 (by omega), g2 72 (by omega)]; exact okW_of Aw hn enw) hJ e26 s16 (fun l hl hb => ((am2 l hl).mp (sub l hl hb)).cong (by rw [g2 70 (by omega)]; exact wk 70 (by omega)) (by rw [g2 72 (by omega)]; exact wk 72 (by omega)) (by rw [g2 73 (by omega)]; exact wk 73 (by omega))) (by omega)
    refine t_be cd2 (t_be (rI_n (by omega) (by omega)) ?_)
    have nx : ∀ u : Int32, T (bX9_projected_142 (nI j) (nI cd) u s1 s3) (LQ (fun x => ∃ j, x.2.1 = nI j ∧ j ≤ J ∧ MI false I0 x.2.2 ∧ ∀ k, k ≠ 85 → x.2.2 k = w k) (20800 - (nI j).toInt.toNat) (fun x => 20800 - x.2.1.toInt.toNat) (fun q : Int32 × gM => MI false I0 q.2 ∧ ∀ k, k ≠ 85 → q.2 k = w k)) := fun u => by
      unfold bX9_projected_142
      rw [show vp_nar .boolean 1 = 1 by decide]
      refine t_be (wI_n (by omega) (by omega)) ?_
      refine t_nx ?_ (by show 20800 - (nI j + 1).toInt.toNat < 20800 - (nI j).toInt.toNat; rw [nI_1, nIt (by omega), nIt (by omega)]; omega)
      dsimp only
      exact ⟨j + 1, nI_1 j, by omega, hM2.up (k := 85) rfl (lo := 0) (hi := 1) rfl (by decide) (by decide), fun k hk => by rw [g_up_row hk]; exact g2 k hk⟩
    exact t_ite (fun _ => nx _) (fun _ => nx _)
  · rw [h3, obs, if_pos rfl]; exact t_ret ⟨hM, hA⟩
theorem n_most {I0 I : gM} (hM : MI false I0 I) (hA : A9 I) (v1 : Int32) : T (fX9_most v1 I) (fun r => MI false I0 r.2 ∧ A9 r.2) := by
  obtain ⟨n, hn, en⟩ := hM.tn
  unfold fX9_most
  rw [n_areTables hn en, obs]
  by_cases c : n = 0
  · rw [if_pos c, if_pos rfl]; exact t_ret ⟨hM, hA⟩
  rw [if_neg c, if_neg (by decide)]
  rcases n_in v1 0 6 with ⟨h1, h2, h3⟩ | ⟨h1, h3⟩
  · rw [h3, obs, if_neg (by decide)]
    obtain ⟨r, e, _, r1, r2, r3, r4⟩ := n_rowsNow hM
    have Ar := hA.join r3 r4
    refine t_be e ?_
    refine t_ite (fun _ => t_bind (tfX9_sumOfRows r r1) (fun _ _ => t_ret ⟨r1, Ar⟩)) (fun _ => ?_)
    have big : ∀ b : Int32, T (bX9_most_80 b r) (fun r => MI false I0 r.2 ∧ A9 r.2) := fun b => by
      unfold bX9_most_80
      exact t_bind (tfX9_greatestTable b r r1) (fun _ _ => t_ret ⟨r1, Ar⟩)
    refine t_ite (fun _ => t_ite (fun _ => big _) (fun _ => big _)) (fun _ => ?_)
    refine t_ite (fun _ => t_ite (fun _ => big _) (fun _ => big _)) (fun _ => ?_)
    refine t_ite (fun _ => t_bind (tfX9_notGiven r r1) (fun _ _ => t_ret ⟨r1, Ar⟩)) (fun _ => ?_)
    refine t_ite (fun _ => t_bind (n_couples r1 r2 Ar) (fun w pw => t_ret ⟨pw.1, Ar.same (by rw [pw.2 62 (by omega)]) (by rw [pw.2 62 (by omega)]) (by rw [pw.2 62 (by omega)]) (fun k hk => pw.2 k (by omega))⟩)) (fun _ => ?_)
    refine t_ite (fun _ => t_bindE (tfX9_joins 0 r r1 (by decide)) (fun w ew pw => t_ret ⟨pw.1, ?_⟩)) (fun _ => t_bindE (tfX9_triesOrders r r1) (fun w ew pw => t_ret ⟨pw, ?_⟩))
    · refine Ar.same ?_ ?_ ?_ (fun k hk => zfX9_joins 0 r ew k (by omega) (by omega) (by omega) (by omega) (by omega) (by omega) (by omega) (by omega))
      · exact xfX9_joins 0 r ew 62 17 (by omega) (by omega) (by omega) (by omega) (by omega) (by omega) (by omega) (by omega) (by omega) (by omega)
      · exact xfX9_joins 0 r ew 62 29 (by omega) (by omega) (by omega) (by omega) (by omega) (by omega) (by omega) (by omega) (by omega) (by omega)
      · exact xfX9_joins 0 r ew 62 42 (by omega) (by omega) (by omega) (by omega) (by omega) (by omega) (by omega) (by omega) (by omega) (by omega)
    · refine Ar.same ?_ ?_ ?_ (fun k hk => zfX9_triesOrders r ew k (by omega) (by omega) (by omega) (by omega) (by omega) (by omega) (by omega) (by omega))
      · exact xfX9_triesOrders r ew 62 17 (by omega) (by omega) (by omega) (by omega) (by omega) (by omega) (by omega) (by omega) (by omega) (by omega) (by omega) (by omega) (by omega)
      · exact xfX9_triesOrders r ew 62 29 (by omega) (by omega) (by omega) (by omega) (by omega) (by omega) (by omega) (by omega) (by omega) (by omega) (by omega) (by omega) (by omega)
      · exact xfX9_triesOrders r ew 62 42 (by omega) (by omega) (by omega) (by omega) (by omega) (by omega) (by omega) (by omega) (by omega) (by omega) (by omega) (by omega) (by omega)
  · rw [h3, obs, if_pos rfl]; exact t_ret ⟨hM, hA⟩
end P_29e_query9
section P_30a_drows
/-! doubles and floats: what a run may answer where no result is a NaN -/
def gD (r : UInt64) : Option UInt64 := if r &&& 0x7fffffffffffffff ≤ 0x7ff0000000000000 then some r else none
def gF (r : UInt32) : Option UInt32 := if r &&& 0x7fffffff ≤ 0x7f800000 then some r else none
theorem gD_some {r u : UInt64} (h : gD r = some u) : vf_n64 r ∧ r = u := by
  unfold gD at h
  split at h
  · rename_i q; exact ⟨q, Option.some.inj h⟩
  · cases h
theorem gF_some {r u : UInt32} (h : gF r = some u) : vf_n32 r ∧ r = u := by
  unfold gF at h
  split at h
  · rename_i q; exact ⟨q, Option.some.inj h⟩
  · cases h
section DROWS
variable {z : gZ} {S : List gS} {E : gE} {own : String} {cc : ByteArray} {rm : Room} {nL : Nat} {pc : Nat} {L : List (Nat × Value)} {st : List Value} {I : gM} {J : gN}
theorem g_dconst0 (F : Fx z S E own cc rm nL) (hd : decode cc pc = .ok (.dconst 0, 1)) (K : G z (pc + 1) L (.double FP.dconst0 :: st) I J) : G z pc L (st) I J := by
  obtain ⟨hx, hb, hml, hown, hts, hK, hD, hk0, rfl, rfl, rfl, rfl⟩ := F
  intro H locs ls hP hS hl
  exact lv_dconst0 hx hb hd (K H locs ls hP hS hl)
theorem g_dconst1 (F : Fx z S E own cc rm nL) (hd : decode cc pc = .ok (.dconst 1, 1)) (K : G z (pc + 1) L (.double FP.dconst1 :: st) I J) : G z pc L (st) I J := by
  obtain ⟨hx, hb, hml, hown, hts, hK, hD, hk0, rfl, rfl, rfl, rfl⟩ := F
  intro H locs ls hP hS hl
  exact lv_dconst1 hx hb hd (K H locs ls hP hS hl)
theorem g_fconst0 (F : Fx z S E own cc rm nL) (hd : decode cc pc = .ok (.fconst 0, 1)) (K : G z (pc + 1) L (.float FP.fconst0 :: st) I J) : G z pc L (st) I J := by
  obtain ⟨hx, hb, hml, hown, hts, hK, hD, hk0, rfl, rfl, rfl, rfl⟩ := F
  intro H locs ls hP hS hl
  exact lv_fconst0 hx hb hd (K H locs ls hP hS hl)
theorem g_dload_n (F : Fx z S E own cc rm nL) {k : Fin 4} {i : Nat} {x : UInt64} (q : Nat) (hd : decode cc pc = .ok (.dload_n k, 1)) (hi : (k : Nat) = i) (hq : L[q]? = some (i, .double x)) (K : G z (pc + 1) L (.double x :: st) I J) : G z pc L (st) I J := by
  obtain ⟨hx, hb, hml, hown, hts, hK, hD, hk0, rfl, rfl, rfl, rfl⟩ := F
  intro H locs ls hP hS hl
  exact lv_dload_n hx hb hd hi (lv_at hl q hq) (K H locs ls hP hS hl)
theorem g_dload (F : Fx z S E own cc rm nL) {i : Nat} {x : UInt64} (q : Nat) (hd : decode cc pc = .ok (.dload i, 2)) (hq : L[q]? = some (i, .double x)) (K : G z (pc + 2) L (.double x :: st) I J) : G z pc L (st) I J := by
  obtain ⟨hx, hb, hml, hown, hts, hK, hD, hk0, rfl, rfl, rfl, rfl⟩ := F
  intro H locs ls hP hS hl
  exact lv_dload hx hb hd (lv_at hl q hq) (K H locs ls hP hS hl)
theorem g_fload_n (F : Fx z S E own cc rm nL) {k : Fin 4} {i : Nat} {x : UInt32} (q : Nat) (hd : decode cc pc = .ok (.fload_n k, 1)) (hi : (k : Nat) = i) (hq : L[q]? = some (i, .float x)) (K : G z (pc + 1) L (.float x :: st) I J) : G z pc L (st) I J := by
  obtain ⟨hx, hb, hml, hown, hts, hK, hD, hk0, rfl, rfl, rfl, rfl⟩ := F
  intro H locs ls hP hS hl
  exact lv_fload_n hx hb hd hi (lv_at hl q hq) (K H locs ls hP hS hl)
theorem g_dstore_n (F : Fx z S E own cc rm nL) {k : Fin 4} {i : Nat} {x : UInt64} {Ln : List (Nat × Value)} (hd : decode cc pc = .ok (.dstore_n k, 1)) (hi : (k : Nat) = i) (hn : i + 1 < nL) (hL : (i, Value.double x) :: L.filter (fun q => !(q.1 == i) && (!(q.1 == i + 1) && !(q.1 + 1 == i && q.2.category == 2))) = Ln) (K : G z (pc + 1) Ln st I J) : G z pc L (.double x :: st) I J := by
  obtain ⟨hx, hb, hml, hown, hts, hK, hD, hk0, rfl, rfl, rfl, rfl⟩ := F
  intro H locs ls hP hS hl
  exact lv_dstore_n (lv := L) hx hb hd hi hl hn hL (fun ls hl => K H locs ls hP hS hl)
theorem g_dstore (F : Fx z S E own cc rm nL) {i : Nat} {x : UInt64} {Ln : List (Nat × Value)} (hd : decode cc pc = .ok (.dstore i, 2)) (hn : i + 1 < nL) (hL : (i, Value.double x) :: L.filter (fun q => !(q.1 == i) && (!(q.1 == i + 1) && !(q.1 + 1 == i && q.2.category == 2))) = Ln) (K : G z (pc + 2) Ln st I J) : G z pc L (.double x :: st) I J := by
  obtain ⟨hx, hb, hml, hown, hts, hK, hD, hk0, rfl, rfl, rfl, rfl⟩ := F
  intro H locs ls hP hS hl
  exact lv_dstore (lv := L) hx hb hd hl hn hL (fun ls hl => K H locs ls hP hS hl)
theorem g_i2d (F : Fx z S E own cc rm nL) {x : Int32} (hd : decode cc pc = .ok (.i2d, 1)) (K : G z (pc + 1) L (.double (FP.i2d x) :: st) I J) : G z pc L (.int x :: st) I J := by
  obtain ⟨hx, hb, hml, hown, hts, hK, hD, hk0, rfl, rfl, rfl, rfl⟩ := F
  intro H locs ls hP hS hl
  exact lv_i2d hx hb hd (K H locs ls hP hS hl)
theorem g_l2d (F : Fx z S E own cc rm nL) {x : Int64} (hd : decode cc pc = .ok (.l2d, 1)) (K : G z (pc + 1) L (.double (FP.l2d x) :: st) I J) : G z pc L (.long x :: st) I J := by
  obtain ⟨hx, hb, hml, hown, hts, hK, hD, hk0, rfl, rfl, rfl, rfl⟩ := F
  intro H locs ls hP hS hl
  exact lv_l2d hx hb hd (K H locs ls hP hS hl)
theorem g_d2i (F : Fx z S E own cc rm nL) {x : UInt64} (hd : decode cc pc = .ok (.d2i, 1)) (K : G z (pc + 1) L (.int (FP.d2i x) :: st) I J) : G z pc L (.double x :: st) I J := by
  obtain ⟨hx, hb, hml, hown, hts, hK, hD, hk0, rfl, rfl, rfl, rfl⟩ := F
  intro H locs ls hP hS hl
  exact lv_d2i hx hb hd (K H locs ls hP hS hl)
theorem g_d2l (F : Fx z S E own cc rm nL) {x : UInt64} (hd : decode cc pc = .ok (.d2l, 1)) (K : G z (pc + 1) L (.long (FP.d2l x) :: st) I J) : G z pc L (.double x :: st) I J := by
  obtain ⟨hx, hb, hml, hown, hts, hK, hD, hk0, rfl, rfl, rfl, rfl⟩ := F
  intro H locs ls hP hS hl
  exact lv_d2l hx hb hd (K H locs ls hP hS hl)
theorem g_dneg (F : Fx z S E own cc rm nL) {x : UInt64} (hd : decode cc pc = .ok (.dneg, 1)) (K : G z (pc + 1) L (.double (FP.dneg x) :: st) I J) : G z pc L (.double x :: st) I J := by
  obtain ⟨hx, hb, hml, hown, hts, hK, hD, hk0, rfl, rfl, rfl, rfl⟩ := F
  intro H locs ls hP hS hl
  exact lv_dneg hx hb hd (K H locs ls hP hS hl)
theorem g_i2f (F : Fx z S E own cc rm nL) {x : Int32} (hd : decode cc pc = .ok (.i2f, 1)) (K : G z (pc + 1) L (.float (FP.i2f x) :: st) I J) : G z pc L (.int x :: st) I J := by
  obtain ⟨hx, hb, hml, hown, hts, hK, hD, hk0, rfl, rfl, rfl, rfl⟩ := F
  intro H locs ls hP hS hl
  exact lv_i2f hx hb hd (K H locs ls hP hS hl)
theorem g_dcmp (F : Fx z S E own cc rm nL) {x y : UInt64} {op : CmpOp} (hd : decode cc pc = .ok (.dcmp op, 1)) (K : G z (pc + 1) L (.int (Op.cmpValue (FP.dcmp x y) op) :: st) I J) : G z pc L (.double y :: .double x :: st) I J := by
  obtain ⟨hx, hb, hml, hown, hts, hK, hD, hk0, rfl, rfl, rfl, rfl⟩ := F
  intro H locs ls hP hS hl
  exact lv_dcmp hx hb hd (K H locs ls hP hS hl)
theorem g_fcmp (F : Fx z S E own cc rm nL) {x y : UInt32} {op : CmpOp} (hd : decode cc pc = .ok (.fcmp op, 1)) (K : G z (pc + 1) L (.int (Op.cmpValue (FP.fcmp x y) op) :: st) I J) : G z pc L (.float y :: .float x :: st) I J := by
  obtain ⟨hx, hb, hml, hown, hts, hK, hD, hk0, rfl, rfl, rfl, rfl⟩ := F
  intro H locs ls hP hS hl
  exact lv_fcmp hx hb hd (K H locs ls hP hS hl)
theorem g_ldc2d (F : Fx z S E own cc rm nL) {idx : Nat} {v : UInt64} (hd : decode cc pc = .ok (.ldc2_w idx, 3)) (hq : Cond.constantDouble own idx v ∈ gw) (K : G z (pc + 3) L (.double v :: st) I J) : G z pc L (st) I J := by
  obtain ⟨hx, hb, hml, hown, hts, hK, hD, hk0, rfl, rfl, rfl, rfl⟩ := F
  intro H locs ls hP hS hl
  exact lv_ldc2d hx hb hown (hts _ hq) hd (K H locs ls hP hS hl)
theorem u_dadd {α : Type} {y : α} (F : Fx z S E own cc rm nL) {x yy : UInt64} {f : UInt64 → Option α} (hd : decode cc pc = .ok (.dadd, 1)) (h : (gD (FP.dadd x yy)).bind f = some y) (K : ∀ u, f u = some y → G z (pc + 1) L (.double u :: st) I J) : G z pc L (.double yy :: .double x :: st) I J := by
  obtain ⟨u, e, h⟩ := ob h
  obtain ⟨e1, rfl⟩ := gD_some e
  obtain ⟨hx, hb, hml, hown, hts, hK, hD, hk0, rfl, rfl, rfl, rfl⟩ := F
  intro H locs ls hP hS hl
  exact lv_dadd hx hb hd e1 (K _ h H locs ls hP hS hl)
theorem u_dsub {α : Type} {y : α} (F : Fx z S E own cc rm nL) {x yy : UInt64} {f : UInt64 → Option α} (hd : decode cc pc = .ok (.dsub, 1)) (h : (gD (FP.dsub x yy)).bind f = some y) (K : ∀ u, f u = some y → G z (pc + 1) L (.double u :: st) I J) : G z pc L (.double yy :: .double x :: st) I J := by
  obtain ⟨u, e, h⟩ := ob h
  obtain ⟨e1, rfl⟩ := gD_some e
  obtain ⟨hx, hb, hml, hown, hts, hK, hD, hk0, rfl, rfl, rfl, rfl⟩ := F
  intro H locs ls hP hS hl
  exact lv_dsub hx hb hd e1 (K _ h H locs ls hP hS hl)
theorem u_dmul {α : Type} {y : α} (F : Fx z S E own cc rm nL) {x yy : UInt64} {f : UInt64 → Option α} (hd : decode cc pc = .ok (.dmul, 1)) (h : (gD (FP.dmul x yy)).bind f = some y) (K : ∀ u, f u = some y → G z (pc + 1) L (.double u :: st) I J) : G z pc L (.double yy :: .double x :: st) I J := by
  obtain ⟨u, e, h⟩ := ob h
  obtain ⟨e1, rfl⟩ := gD_some e
  obtain ⟨hx, hb, hml, hown, hts, hK, hD, hk0, rfl, rfl, rfl, rfl⟩ := F
  intro H locs ls hP hS hl
  exact lv_dmul hx hb hd e1 (K _ h H locs ls hP hS hl)
theorem u_ddiv {α : Type} {y : α} (F : Fx z S E own cc rm nL) {x yy : UInt64} {f : UInt64 → Option α} (hd : decode cc pc = .ok (.ddiv, 1)) (h : (gD (FP.ddiv x yy)).bind f = some y) (K : ∀ u, f u = some y → G z (pc + 1) L (.double u :: st) I J) : G z pc L (.double yy :: .double x :: st) I J := by
  obtain ⟨u, e, h⟩ := ob h
  obtain ⟨e1, rfl⟩ := gD_some e
  obtain ⟨hx, hb, hml, hown, hts, hK, hD, hk0, rfl, rfl, rfl, rfl⟩ := F
  intro H locs ls hP hS hl
  exact lv_ddiv hx hb hd e1 (K _ h H locs ls hP hS hl)
theorem u_fdiv {α : Type} {y : α} (F : Fx z S E own cc rm nL) {x yy : UInt32} {f : UInt32 → Option α} (hd : decode cc pc = .ok (.fdiv, 1)) (h : (gF (FP.fdiv x yy)).bind f = some y) (K : ∀ u, f u = some y → G z (pc + 1) L (.float u :: st) I J) : G z pc L (.float yy :: .float x :: st) I J := by
  obtain ⟨u, e, h⟩ := ob h
  obtain ⟨e1, rfl⟩ := gF_some e
  obtain ⟨hx, hb, hml, hown, hts, hK, hD, hk0, rfl, rfl, rfl, rfl⟩ := F
  intro H locs ls hP hS hl
  exact lv_fdiv hx hb hd e1 (K _ h H locs ls hP hS hl)
theorem u_d2f {α : Type} {y : α} (F : Fx z S E own cc rm nL) {x : UInt64} {f : UInt32 → Option α} (hd : decode cc pc = .ok (.d2f, 1)) (h : (gF (FP.d2f x)).bind f = some y) (K : ∀ u, f u = some y → G z (pc + 1) L (.float u :: st) I J) : G z pc L (.double x :: st) I J := by
  obtain ⟨u, e, h⟩ := ob h
  obtain ⟨e1, rfl⟩ := gF_some e
  obtain ⟨hx, hb, hml, hown, hts, hK, hD, hk0, rfl, rfl, rfl, rfl⟩ := F
  intro H locs ls hP hS hl
  exact lv_d2f hx hb hd e1 (K _ h H locs ls hP hS hl)
theorem u_f2d {α : Type} {y : α} (F : Fx z S E own cc rm nL) {x : UInt32} {f : UInt64 → Option α} (hd : decode cc pc = .ok (.f2d, 1)) (h : (gD (FP.f2d x)).bind f = some y) (K : ∀ u, f u = some y → G z (pc + 1) L (.double u :: st) I J) : G z pc L (.float x :: st) I J := by
  obtain ⟨u, e, h⟩ := ob h
  obtain ⟨e1, rfl⟩ := gD_some e
  obtain ⟨hx, hb, hml, hown, hts, hK, hD, hk0, rfl, rfl, rfl, rfl⟩ := F
  intro H locs ls hP hS hl
  exact lv_f2d hx hb hd e1 (K _ h H locs ls hP hS hl)
theorem g_dret (F : Fx z S E own cc rm nL) {post : Option Value → gM → gN → Prop} {v : UInt64} (e : Fe z S E (some .double) post) (hd : decode cc pc = .ok (.dreturn, 1)) (h : post (some (.double v)) I J) : G z pc L ([.double v]) I J := by
  obtain ⟨hx, hb, hml, hown, hts, hK, hD, hk0, rfl, rfl, rfl, rfl⟩ := F
  intro H locs ls hP hS hl
  unfold gW
  rw [e.2.2]
  exact W.dret hx hb e.1 (fun t ht hW => ⟨⟨_, I, J, rfl, h, by rw [ht]; exact hP⟩, hS.F ht⟩) hS.2.2 hd e.2.1
theorem g_dBits (F : Fx z S E own cc rm nL) {idx : Nat} {x : UInt64} (hq : Cond.methodLink own idx ⟨"java/lang/Double", "doubleToRawLongBits", "(D)J"⟩ ∈ gw) (h1q : Cond.native ⟨"java/lang/Double", "doubleToRawLongBits", "(D)J"⟩ ∈ gw) (h2q : Cond.static ⟨"java/lang/Double", "doubleToRawLongBits", "(D)J"⟩ ∈ gw) (h3q : Cond.initialized "java/lang/Double" ∈ gw) (hf : 1 ≤ rm.frames) (hlo : (st.map fun v => v.category).sum + 15 ≤ rm.locals) (hd : decode cc pc = .ok (.invokestatic idx, 3)) (K : G z (pc + 3) L (.long x.toInt64 :: st) I J) : G z pc L (.double x :: st) I J := by
  obtain ⟨hx, hb, hml, hown, hts, hK, hD, hk0, rfl, rfl, rfl, rfl⟩ := F
  intro H locs ls hP hS hl
  exact vn_d2l hx hb (hml.trans hl.1.symm) hown (hts _ hq) (hts _ h1q) (hts _ h2q) (hts _ h3q) hf hlo hd (K H locs ls hP hS hl)
theorem g_fBits (F : Fx z S E own cc rm nL) {idx : Nat} {x : UInt32} (hq : Cond.methodLink own idx ⟨"java/lang/Float", "floatToRawIntBits", "(F)I"⟩ ∈ gw) (h1q : Cond.native ⟨"java/lang/Float", "floatToRawIntBits", "(F)I"⟩ ∈ gw) (h2q : Cond.static ⟨"java/lang/Float", "floatToRawIntBits", "(F)I"⟩ ∈ gw) (h3q : Cond.initialized "java/lang/Float" ∈ gw) (hf : 1 ≤ rm.frames) (hlo : (st.map fun v => v.category).sum + 15 ≤ rm.locals) (hd : decode cc pc = .ok (.invokestatic idx, 3)) (K : G z (pc + 3) L (.int x.toInt32 :: st) I J) : G z pc L (.float x :: st) I J := by
  obtain ⟨hx, hb, hml, hown, hts, hK, hD, hk0, rfl, rfl, rfl, rfl⟩ := F
  intro H locs ls hP hS hl
  exact vn_f2i hx hb (hml.trans hl.1.symm) hown (hts _ hq) (hts _ h1q) (hts _ h2q) (hts _ h3q) hf hlo hd (K H locs ls hP hS hl)
end DROWS
/-- a method of a class some of whose methods are run by an entry: this one is not -/
theorem met_ofWF {l : Launch} {y : MethodName} {ws ws' : List Cond} {rm : Room} {Pc : Array Value → State → Prop} {Qc : Array Value → State → Outcome → State → Prop} {mc ms : Nat} {free : Addr → Prop} {cc : ByteArray} {maxL : Nat} {ret : Option FieldType}
    (hy : plainFor y = true) (hw : ws = Cond.code y cc maxL ret :: ws')
    (body : ∀ p e s m args below meth c s₁, BodyLoose p l y (headSpec ws rm) cc maxL ret e s m args below meth c s₁ → c.maxLocals = maxL → Pc args s →
      W p l e (headSpec ws rm).room s m args below meth c s.heap [] 0 0 (MQ below Qc args s mc ms free) (entryFrame m args maxL)) : Met l y ws rm Pc Qc mc ms free := by
  refine MetFree.of_bodySF (code := cc) (maxLocals := maxL) (ret := ret) hy ?_ ?_
  · intro args s m h hn
    obtain ⟨meth, c, h1, h2, h3, h4, h5, h6, -, -⟩ := Cond.code_spec hn (atoms_spec (ws := ws) h _ (by rw [hw]; exact List.mem_cons_self))
    exact ⟨meth, c, h1, h2, h3, h4, h5, h6⟩
  · intro p e s m args below meth c s₁ B hml hP _
    have hh0 : s₁.heap = s.heap := by rw [B.state]; rfl
    obtain ⟨t, a1, o, b1, b2, b3⟩ := body p e s m args below meth c s₁ B hml hP s₁ hh0 (Stand.of_body B)
    exact ⟨t, o, a1, b1, b2, ⟨b3.1, b3.2⟩⟩
theorem Cu.ofF {l : Launch} {S : List gS} {E : gE} {bk : Nat} {y : MethodName} {cc : ByteArray} {nL : Nat} {ret : Option FieldType} {rm : Room} {av : List Value} {I : gM} {J : gN} {post : Option Value → gM → gN → Prop} (own : String) (hown : y.cls = own)
    (hdist : gDist S E) (hy : plainFor y = true) (hlen : (lg_sl av).length ≤ nL)
    (body : ∀ z, Fx z S E own cc rm nL → bZ z bk → Fe z S E ret post → zl z = l → G z 0 (lv_args 0 av) [] I J) : Cu l S E bk y cc nL ret rm av I J post := by
  refine met_ofWF (cc := cc) (maxL := nL) (ret := ret) hy rfl ?_
  intro p e s m args below meth c s₁ B hml hv
  obtain ⟨rfl, hP, hK, hB⟩ := hv
  have hts := atoms_spec (ws := gws y cc nL ret) B.pre
  have hl := lv_entry av (n := nL) hlen
  rw [lg_entry_eq]
  exact body ((p, l, e, (headSpec (gws y cc nL ret) rm).room, s, m, av.toArray, below, meth, c), (0, 0, MQ below (gQ S E (gA S E) post) av.toArray s 0 0 (gA S E)), (S, E), gA S E, nL)
    ⟨B.exec, B.bytes, hml, by rw [← hown]; exact findClass_of_methodNamed B.named, fun w h => hts w (List.mem_cons_of_mem _ h), hK, g_D hdist (fun k hk => ⟨k, hk, rfl⟩), ⟨Nat.zero_le _, Nat.zero_le _⟩, rfl, rfl, rfl, rfl⟩ hB ⟨B.returns, B.notSynchronized, rfl⟩ rfl s.heap [] _ hP va_S.rf hl
end P_30a_drows
