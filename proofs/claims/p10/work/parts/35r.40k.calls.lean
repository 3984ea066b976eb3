/-! put, take, use, order: answered alike -/
theorem all_put {C : Nat} {I : gM} (h : InvA C I) (hC : C ≤ 3) (hJ : C = 3 → JE ∧ I 22 0 = 0) (v1 v2 v3 v4 : Int32) : ∃ a b, fX8_put v1 v2 v3 v4 I = some a ∧ fX9_put v1 v2 v3 v4 a.2 = some b ∧ InvA C b.2 ∧ a.1 = b.1 := by
  obtain ⟨d, a, v, b, e1, e2, hI, hd⟩ := hand_both h hC hJ (s := 0) (by omega) v1 v2 v3 v4 v2 v3 v4 (fun q => absurd q (by omega)) (fun _ => ⟨rfl, rfl, rfl⟩)
  unfold fX8_put fX9_put
  rw [show (0 : Int32) = nI 0 from rfl, e1, obs]
  rcases hd with ⟨rfl, rfl⟩ | ⟨rfl, A, A', _, _, hW', hC', _, hl, hv, _, _⟩
  · exact ⟨(-1, a), (-1, b), if_pos rfl, by rw [e2, obs], hI, rfl⟩
  · obtain ⟨t, ht, rfl, rfl⟩ := hv (by omega)
    have h4 := hW'.1
    refine ⟨(nI (aK A' t).length, a), (nI (aK A' t).length, b), ?_, by rw [e2, obs], hI, rfl⟩
    rw [if_neg (show ¬ (1 : Int32) = nI 0 from n10)]
    dsimp only
    rw [rI_n (by omega) (by omega), obs, show a 5 t = a (3 + 2) t from rfl, (hC'.2.2.2 t (by omega)).2.2.1]
theorem all_take {C : Nat} {I : gM} (h : InvA C I) (hC : C ≤ 3) (hJ : C = 3 → JE ∧ I 22 0 = 0) (v1 v2 v3 v4 : Int32) : ∃ a b, fX8_take v1 v2 v3 v4 I = some a ∧ fX9_take v1 v2 v3 v4 a.2 = some b ∧ InvA C b.2 ∧ a.1 = b.1 := by
  obtain ⟨d, a, v, b, e1, e2, hI, hd⟩ := hand_both h hC hJ (s := 1) (by omega) v1 v2 v3 v4 v2 v3 v4 (fun q => absurd q (by omega)) (fun _ => ⟨rfl, rfl, rfl⟩)
  unfold fX8_take fX9_take
  rw [show (1 : Int32) = nI 1 from rfl, e1, obs]
  rcases hd with ⟨rfl, rfl⟩ | ⟨rfl, A, A', _, _, hW', hC', _, hl, hv, _, _⟩
  · exact ⟨(-1, a), (-1, b), if_pos rfl, by rw [e2, obs], hI, rfl⟩
  · obtain ⟨t, ht, rfl, rfl⟩ := hv (by omega)
    have h4 := hW'.1
    refine ⟨(nI (aK A' t).length, a), (nI (aK A' t).length, b), ?_, by rw [e2, obs], hI, rfl⟩
    rw [if_neg n10]
    dsimp only
    rw [rI_n (by omega) (by omega), obs, show a 5 t = a (3 + 2) t from rfl, (hC'.2.2.2 t (by omega)).2.2.1]
theorem hs0_bit : ∀ m, m < 16 → ∀ l, l < 4 → (((nI m >>> (nI l &&& 31)) &&& 1 = 0) ↔ ¬ m.testBit l = true) := by decide +kernel
theorem c_isUsed {I : gM} {k t : Nat} {A : aT} (hW : WF A) (hC : CT I k A) (ht : t < A.1.length) : fX5_isUsed k (nI t) I = some (if A.2.1.testBit t then 1 else 0) := by
  have h4 := hW.1
  have e1 : fX5_isTable k (nI t) I = some 1 := by
    rcases c_isTable h4 hC.1 (nI t) with ⟨_, _, _, z⟩ | ⟨z, _⟩
    · exact z
    · exact absurd rfl (z t ht)
  unfold fX5_isUsed
  rw [e1, obs, if_neg n10, hC.2.1]
  have q := hs0_bit _ hW.u t (by omega)
  by_cases c : A.2.1.testBit t = true
  · rw [if_pos c, if_neg (fun z => q.mp z c)]
  · rw [if_neg c, if_pos (q.mpr c)]
theorem all_use {C : Nat} {I : gM} (h : InvA C I) (hC : C ≤ 3) (hJ : C = 3 → JE ∧ I 22 0 = 0) (v1 : Int32) : ∃ a b, fX8_use v1 I = some a ∧ fX9_use v1 a.2 = some b ∧ InvA C b.2 ∧ a.1 = b.1 := by
  obtain ⟨d, a, v, b, e1, e2, hI, hd⟩ := hand_both h hC hJ (s := 2) (by omega) v1 (-1) (-1) (-1) 0 0 0 (fun _ => ⟨rfl, rfl, rfl⟩) (fun q => absurd q (by omega))
  unfold fX8_use fX9_use
  rw [show (2 : Int32) = nI 2 from rfl, e1, obs]
  rcases hd with ⟨rfl, rfl⟩ | ⟨rfl, A, A', _, _, hW', hC', _, hl, _, hv, _⟩
  · exact ⟨(-1, a), (-1, b), if_pos rfl, by rw [e2, obs], hI, rfl⟩
  · obtain ⟨t, ht, rfl, rfl⟩ := hv rfl
    refine ⟨(if A'.2.1.testBit t then 1 else 0, a), (if A'.2.1.testBit t then 1 else 0, b), ?_, by rw [e2, obs], hI, rfl⟩
    rw [if_neg n10]
    dsimp only
    rw [c_isUsed hW' hC' (by omega), obs]
    by_cases c : A'.2.1.testBit t = true
    · rw [if_pos c, if_neg n10]
    · rw [if_neg c, if_pos rfl]
theorem all_order {C : Nat} {I : gM} (h : InvA C I) (hC : C ≤ 3) (hJ : C = 3 → JE ∧ I 22 0 = 0) (v1 : Int32) : ∃ a b, fX8_order v1 I = some a ∧ fX9_order v1 a.2 = some b ∧ InvA C b.2 ∧ a.1 = b.1 := by
  obtain ⟨d, a, v, b, e1, e2, hI, hd⟩ := hand_both h hC hJ (s := 3) (by omega) v1 (-1) (-1) (-1) 0 0 0 (fun _ => ⟨rfl, rfl, rfl⟩) (fun q => absurd q (by omega))
  unfold fX8_order fX9_order
  rw [show (3 : Int32) = nI 3 from rfl, e1, obs]
  rcases hd with ⟨rfl, rfl⟩ | ⟨rfl, A, A', _, hCA, hW', hC', _, hl, _, _, hv⟩
  · exact ⟨(-1, a), (-1, b), if_pos rfl, by rw [e2, obs], hI, rfl⟩
  · refine ⟨(I 3 2, a), (v, b), if_neg n10, by rw [e2, obs], hI, ?_⟩
    rw [hv rfl]; exact hCA.2.2.1
