/-! acts on the class's tables; why not: both the same -/
theorem CT.ext {I : gM} {k : Nat} {A B : aT} (h : CT I k A) (hn : A.1.length = B.1.length) (hL : ∀ t, t < A.1.length → aL A t = aL B t) (hK : ∀ t, t < A.1.length → aK A t = aK B t) (h2 : A.2 = B.2) : CT I k B := by
  refine ⟨by rw [← hn]; exact h.1, by rw [← h2]; exact h.2.1, by rw [← h2]; exact h.2.2.1, fun t ht => ?_⟩
  rw [← hn] at ht
  rw [← hL t ht, ← hK t ht]
  exact h.2.2.2 t ht
/-- one table's rows are others then -/
theorem CT.set {I r : gM} {k t : Nat} {A : aT} {l : List Nat} (hW : WF A) (h : CT I k A) (ht : t < A.1.length) (hx : ∀ x, x ≠ k + 2 → x ≠ k + 4 → r x = I x) (h2 : ∀ a, a ≠ t → r (k + 2) a = I (k + 2) a) (hl : CTt r k t l) (h4 : ∀ t', t' ≠ t → ∀ i, i < 12 → r (k + 4) (12 * t' + i) = I (k + 4) (12 * t' + i)) : CT r k (aSet A t l) := by
  refine ⟨by rw [aSet_n, hx k (by omega) (by omega)]; exact h.1, by rw [hx k (by omega) (by omega)]; exact h.2.1, by rw [hx k (by omega) (by omega)]; exact h.2.2.1, fun t' ht' => ?_⟩
  rw [aSet_n] at ht'
  obtain ⟨q1, q2, q3⟩ := h.2.2.2 t' ht'
  rw [aSet_L t' ht, aSet_K t' ht, hx (k + 1) (by omega) (by omega), hx (k + 3) (by omega) (by omega)]
  refine ⟨q1, q2, ?_⟩
  by_cases c : t' = t
  · rw [if_pos c, c]; exact hl
  · rw [if_neg c]
    exact q3.cong (h2 t' c) (fun i hi => h4 t' c i (by have := (hW.2.2.2.2 t' ht').2.2.2.1; omega))
theorem CT_ins {I r : gM} {k t i q : Nat} {A : aT} (hW : WF A) (h : CT I k A) (ht : t < A.1.length) (hl : (aK A t).length ≤ 11) (hi : i ≤ (aK A t).length) (hx : ∀ x, x ≠ k + 2 → x ≠ k + 4 → r x = I x) (h2 : ∀ a, r (k + 2) a = if a = t then nI ((aK A t).length + 1) else I (k + 2) a) (h4 : ∀ a, r (k + 4) a = iw (I (k + 4)) t (aK A t).length i (nI q) a) : CT r k (aSet A t (insA i q (aK A t))) := by
  have hC := (h.2.2.2 t ht).2.2
  refine h.set hW ht hx (fun a ha => by rw [h2, if_neg ha]) ⟨by rw [h2, if_pos rfl, insA_len], fun j hj => ?_⟩ (fun t' hne j hj => ?_)
  · rw [insA_len] at hj
    rw [h4, insA_get j hi]
    unfold iw
    by_cases c1 : j = i
    · rw [if_pos (by omega), if_neg (by omega), if_pos c1]
    · rw [if_neg (by omega)]
      by_cases c2 : j < i
      · rw [if_neg (by omega), if_pos c2]; exact hC.2 j (by omega)
      · rw [if_pos (by omega), if_neg c2, if_neg c1, show 12 * t + j - 1 = 12 * t + (j - 1) by omega]; exact hC.2 (j - 1) (by omega)
  · rw [h4]
    unfold iw
    rw [if_neg (by omega), if_neg (by omega)]
theorem CT_del {I r : gM} {k t i : Nat} {A : aT} (hW : WF A) (h : CT I k A) (ht : t < A.1.length) (hi : i < (aK A t).length) (hx : ∀ x, x ≠ k + 2 → x ≠ k + 4 → r x = I x) (h2 : ∀ a, r (k + 2) a = if a = t then nI ((aK A t).length - 1) else I (k + 2) a) (h4 : ∀ a, r (k + 4) a = if 12 * t + i ≤ a ∧ a < 12 * t + ((aK A t).length - 1) then I (k + 4) (a + 1) else I (k + 4) a) : CT r k (aSet A t (delA i (aK A t))) := by
  have hC := (h.2.2.2 t ht).2.2
  have hl := (hW.2.2.2.2 t ht).2.2.2.1
  refine h.set hW ht hx (fun a ha => by rw [h2, if_neg ha]) ⟨by rw [h2, if_pos rfl, delA_len hi], fun j hj => ?_⟩ (fun t' hne j hj => ?_)
  · rw [delA_len hi] at hj
    rw [h4, delA_get j hi]
    by_cases c2 : j < i
    · rw [if_neg (by omega), if_pos c2]; exact hC.2 j (by omega)
    · rw [if_pos (by omega), if_neg c2, show 12 * t + j + 1 = 12 * t + (j + 1) by omega]; exact hC.2 (j + 1) (by omega)
  · rw [h4, if_neg (by omega)]
/-- which cells an act on the tables at k leaves -/
def Fk (k : Nat) (I r : gM) : Prop := (∀ q, q < k ∨ k + 4 < q → r q = I q) ∧ ∀ j, 3 ≤ j → r k j = I k j
theorem Fk.of {k : Nat} {I r : gM} (h : ∀ x, x ≠ k + 2 → x ≠ k + 4 → r x = I x) : Fk k I r := ⟨fun q hq => h q (by omega) (by omega), fun j _ => by rw [h k (by omega) (by omega)]⟩
theorem k_lt {A : aT} {t : Nat} (h : wfT A t) : ∀ i, i < (aK A t).length → (aK A t).getD i 0 < 2097152 := fun i hi => (h.2.2.2.2.2 i hi).lt
theorem c_change {I : gM} {k : Nat} {A A' : aT} {s a x y z : Int32} (hW : WF A) (hC : CT I k A) (h : ActA A s a x y z A') : ∃ r, fX5_change k s a (nI (kyz x y z)) I = some r ∧ CT r k A' ∧ Fk k I r := by
  unfold fX5_change
  have hn4 := hW.1
  rcases h with ⟨hs, t, i, ht, ha, hl, hr, hp, hne, rfl⟩ | ⟨hs, t, i, ht, ha, hr, hi, hq, rfl⟩ | ⟨hs, t, ht, ha, hu, rfl⟩ | ⟨h0, h1, h2, o, ho, ha, hne, hpos, rfl⟩
  · have w := hW.2.2.2.2 t ht
    obtain ⟨i', r, e, hp', r1, r2, r3⟩ := c_insert hn4 hC.1 ht hl (hC.2.2.2 t ht).2.2 (row_k hr).1.lt (k_lt w) w.2.2.2.2.1 (fun j hj z => hne (by
      have := hp.eq (posK.at w.2.2.2.2.1 hj z)
      subst this; exact ⟨hj, z⟩))
    have := hp'.eq hp
    subst this
    rw [if_pos hs, ha, e, obs]
    exact ⟨r, rfl, CT_ins hW hC ht hl hp.1 r1 r2 r3, Fk.of r1⟩
  · have w := hW.2.2.2.2 t ht
    obtain ⟨r, e, r1, r2, r3⟩ := c_remove hn4 hC.1 ht w.2.2.2.1 (hC.2.2.2 t ht).2.2 (k_lt w) w.2.2.2.2.1 hi hq
    rw [if_neg (by rw [hs]; decide), if_pos hs, ha, e, obs]
    exact ⟨r, rfl, CT_del hW hC ht hi r1 r2 r3, Fk.of r1⟩
  · rw [if_neg (by rw [hs]; decide), if_neg (by rw [hs]; decide), if_pos hs, ha, hC.2.1, one_shl t (by omega), xor_nI _ hW.u t (by omega), pU_n, obs]
    refine ⟨_, rfl, ⟨by rw [g_up_ne (Or.inr (by decide))]; exact hC.1, by rw [g_up_self], by rw [g_up_ne (Or.inr (by decide))]; exact hC.2.2.1, fun t' ht' => ?_⟩, ⟨fun q hq => g_up_row (by omega), fun j hj => g_up_ne (Or.inr (by omega))⟩⟩
    rw [g_up_row (show k + 1 ≠ k by omega), g_up_row (show k + 3 ≠ k by omega)]
    exact ⟨(hC.2.2.2 t' ht').1, (hC.2.2.2 t' ht').2.1, (hC.2.2.2 t' ht').2.2.cong (by rw [g_up_row (by omega)]) (fun _ _ => by rw [g_up_row (by omega)])⟩
  · rw [if_neg h0, if_neg h1, if_neg h2, ha, pU_n, obs]
    refine ⟨_, rfl, ⟨by rw [g_up_ne (Or.inr (by decide))]; exact hC.1, by rw [g_up_ne (Or.inr (by decide))]; exact hC.2.1, by rw [g_up_self], fun t' ht' => ?_⟩, ⟨fun q hq => g_up_row (by omega), fun j hj => g_up_ne (Or.inr (by omega))⟩⟩
    rw [g_up_row (show k + 1 ≠ k by omega), g_up_row (show k + 3 ≠ k by omega)]
    exact ⟨(hC.2.2.2 t' ht').1, (hC.2.2.2 t' ht').2.1, (hC.2.2.2 t' ht').2.2.cong (by rw [g_up_row (by omega)]) (fun _ _ => by rw [g_up_row (by omega)])⟩
/-- what the class keeps of an act, to change it back -/
def backN (A : aT) (s a : Int32) : Int32 := if s = 0 ∨ s = 1 ∨ s = 2 then a else nI A.2.2
theorem aSet_back {A : aT} {t : Nat} {l m : List Nat} (ht : t < A.1.length) (h : m = aK A t) {I : gM} {k : Nat} (hC : CT I k (aSet (aSet A t l) t m)) : CT I k A := by
  have ht2 : t < (aSet A t l).1.length := by rw [aSet_n]; exact ht
  refine hC.ext (by rw [aSet_n, aSet_n]) (fun t' _ => by rw [aSet_L t' ht2, aSet_L t' ht]) (fun t' _ => ?_) rfl
  rw [aSet_K t' ht2, aSet_K t' ht]
  by_cases c : t' = t
  · rw [if_pos c, c, h]
  · rw [if_neg c, if_neg c]
theorem c_changeBack {I : gM} {k : Nat} {A A' : aT} {s a x y z : Int32} (hW : WF A) (h : ActA A s a x y z A') (hC : CT I k A') : ∃ r, fX5_changeBack k s (backN A s a) (nI (kyz x y z)) I = some r ∧ CT r k A ∧ Fk k I r := by
  unfold fX5_changeBack backN
  have hW' := hW.act h
  have hn4 := hW.1
  rcases h with ⟨hs, t, i, ht, ha, hl, hr, hp, hne, rfl⟩ | ⟨hs, t, i, ht, ha, hr, hi, hq, rfl⟩ | ⟨hs, t, ht, ha, hu, rfl⟩ | ⟨h0, h1, h2, o, ho, ha, hne, hpos, rfl⟩
  · have ht2 : t < (aSet A t (insA i (kyz x y z) (aK A t))).1.length := by rw [aSet_n]; exact ht
    have w := hW'.2.2.2.2 t ht2
    have hi' : i < (aK (aSet A t (insA i (kyz x y z) (aK A t))) t).length := by rw [aSet_K t ht, if_pos rfl, insA_len]; have := hp.1; omega
    have hg : (aK (aSet A t (insA i (kyz x y z) (aK A t))) t).getD i 0 = kyz x y z := by rw [aSet_K t ht, if_pos rfl, insA_get i hp.1, if_neg (by omega), if_pos rfl]
    obtain ⟨r, e, r1, r2, r3⟩ := c_remove hW'.1 hC.1 ht2 w.2.2.2.1 (hC.2.2.2 t ht2).2.2 (k_lt w) w.2.2.2.2.1 hi' hg
    rw [if_pos hs, if_pos (Or.inl hs), ha, e, obs]
    refine ⟨r, rfl, aSet_back ht ?_ (CT_del hW' hC ht2 hi' r1 r2 r3), Fk.of r1⟩
    rw [aSet_K t ht, if_pos rfl, del_ins hp.1]
  · have ht2 : t < (aSet A t (delA i (aK A t))).1.length := by rw [aSet_n]; exact ht
    have w := hW'.2.2.2.2 t ht2
    have w0 := hW.2.2.2.2 t ht
    have ek : aK (aSet A t (delA i (aK A t))) t = delA i (aK A t) := by rw [aSet_K t ht, if_pos rfl]
    have el : (aK (aSet A t (delA i (aK A t))) t).length = (aK A t).length - 1 := by rw [ek, delA_len hi]
    have hl12 := w0.2.2.2.1
    have pos : posK (kyz x y z) (aK (aSet A t (delA i (aK A t))) t) i := by
      rw [ek]
      refine ⟨by rw [delA_len hi]; omega, fun j hj => ?_, fun j a b => ?_⟩
      · rw [delA_get j hi, if_pos hj, ← hq]; exact w0.2.2.2.2.1 j i hj hi
      · rw [delA_len hi] at b
        rw [delA_get j hi, if_neg (by omega), ← hq]; exact Nat.le_of_lt (w0.2.2.2.2.1 i (j + 1) (by omega) (by omega))
    have no : ∀ j, j < (aK (aSet A t (delA i (aK A t))) t).length → (aK (aSet A t (delA i (aK A t))) t).getD j 0 ≠ kyz x y z := by
      intro j hj
      rw [el] at hj
      rw [ek, delA_get j hi, ← hq]
      by_cases c : j < i
      · rw [if_pos c]; have := w0.2.2.2.2.1 j i c hi; omega
      · rw [if_neg c]; have := w0.2.2.2.2.1 i (j + 1) (by omega) (by omega); omega
    obtain ⟨i', r, e, hp', r1, r2, r3⟩ := c_insert hW'.1 hC.1 ht2 (by rw [el]; omega) (hC.2.2.2 t ht2).2.2 (row_k hr).1.lt (k_lt w) w.2.2.2.2.1 no
    have := hp'.eq pos
    subst this
    rw [if_neg (by rw [hs]; decide), if_pos hs, if_pos (Or.inr (Or.inl hs)), ha, e, obs]
    refine ⟨r, rfl, aSet_back ht ?_ (CT_ins hW' hC ht2 (by rw [el]; omega) hp'.1 r1 r2 r3), Fk.of r1⟩
    rw [ek, ← hq]; exact ins_del hi
  · rw [if_neg (by rw [hs]; decide), if_neg (by rw [hs]; decide), if_pos (Or.inr (Or.inr hs))]
    unfold fX5_change
    rw [if_neg (by rw [hs]; decide), if_neg (by rw [hs]; decide), if_pos hs, ha, hC.2.1, one_shl t (by omega), xor_nI _ hW'.u t (by omega), pU_n, obs, obs]
    refine ⟨_, rfl, ⟨by rw [g_up_ne (Or.inr (by decide))]; exact hC.1, by rw [g_up_self]; dsimp only; rw [Nat.xor_assoc, Nat.xor_self, Nat.xor_zero], by rw [g_up_ne (Or.inr (by decide))]; exact hC.2.2.1, fun t' ht' => ?_⟩, ⟨fun q hq => g_up_row (by omega), fun j hj => g_up_ne (Or.inr (by omega))⟩⟩
    rw [g_up_row (show k + 1 ≠ k by omega), g_up_row (show k + 3 ≠ k by omega)]
    exact ⟨(hC.2.2.2 t' ht').1, (hC.2.2.2 t' ht').2.1, (hC.2.2.2 t' ht').2.2.cong (by rw [g_up_row (by omega)]) (fun _ _ => by rw [g_up_row (by omega)])⟩
  · rw [if_neg h0, if_neg h1, if_neg (fun q => q.elim h0 (fun q => q.elim h1 h2))]
    unfold fX5_change
    rw [if_neg h0, if_neg h1, if_neg h2, pU_n, obs, obs]
    refine ⟨_, rfl, ⟨by rw [g_up_ne (Or.inr (by decide))]; exact hC.1, by rw [g_up_ne (Or.inr (by decide))]; exact hC.2.1, by rw [g_up_self], fun t' ht' => ?_⟩, ⟨fun q hq => g_up_row (by omega), fun j hj => g_up_ne (Or.inr (by omega))⟩⟩
    rw [g_up_row (show k + 1 ≠ k by omega), g_up_row (show k + 3 ≠ k by omega)]
    exact ⟨(hC.2.2.2 t' ht').1, (hC.2.2.2 t' ht').2.1, (hC.2.2.2 t' ht').2.2.cong (by rw [g_up_row (by omega)]) (fun _ _ => by rw [g_up_row (by omega)])⟩
