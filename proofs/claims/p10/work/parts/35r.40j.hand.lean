/-- an act is tried by both -/
theorem try_both {C : Nat} {I : gM} (hM : MI true I I) (hA9 : A9 I) {S : Nat → aT} {m nx : Nat} (h : InvS C I S m nx) (hC : C ≤ 3) (hJ : C = 3 → JE ∧ I 22 0 = 0) {s : Nat} (hs : s < 4) (num x y z x' y' z' : Int32) (h2 : 2 ≤ s → x = -1 ∧ y = -1 ∧ z = -1) (h1 : s < 2 → x' = x ∧ y' = y ∧ z' = z) :
    (∃ r, r < 4 ∧ fX8_attempt (nI s) num x y z I = some (nI r, I) ∧ fX9_whyNot (nI s) num x' y' z' I = some (nI r)) ∨
    (∃ A' a v b S', ActA (S m) (nI s) num x y z A' ∧ fX9_whyNot (nI s) num x' y' z' a = some (-1) ∧ fX8_attempt (nI s) num x y z I = some (-1, a) ∧ fX9_act (nI s) num x' y' z' a = some (v, b) ∧ MI true I a ∧ MI false a b ∧ A9 b ∧ InvS C b S' (min (m + 1) 40) ((nx + 1) % 40) ∧ S' (min (m + 1) 40) = A' ∧ WF A' ∧ CT a 3 A' ∧ (∀ q, q = 0 ∨ q = 1 ∨ q = 2 ∨ 50 ≤ q ∧ q < 62 → a q = I q) ∧ (∀ j, j ≠ 19 → j ≠ 26 → j ≠ 27 → j ≠ 29 → b 62 j = a 62 j) ∧ (∀ k, k ≠ 62 → k ≠ 70 → k ≠ 74 → k ≠ 75 → k ≠ 76 → k ≠ 77 → k ≠ 78 → k ≠ 79 → k ≠ 80 → k ≠ 81 → b k = a k) ∧
      (s < 2 → ∃ t, t < (S m).1.length ∧ num = nI t ∧ v = nI (aK A' t).length) ∧ (s = 2 → ∃ t, t < (S m).1.length ∧ num = nI t ∧ v = if A'.2.1.testBit t then 1 else 0) ∧ (s = 3 → v = nI (S m).2.2)) := by
  have hWm := h.2.1 m (Nat.le_refl _)
  have hCm := h.2.2.1.1
  have hRm := h.2.2.1.2.1
  obtain ⟨r, e1, e2, e3, _⟩ := why_both hM.re hWm hCm hRm hs num x y z
  have e2' : fX9_whyNot (nI s) num x' y' z' I = some r := by
    rcases Nat.lt_or_ge s 2 with c | c
    · obtain ⟨f1, f2, f3⟩ := h1 c
      rw [f1, f2, f3]; exact e2
    · rw [← e2]; exact why_any (by omega) _ _ _ _ _ _ _
  by_cases hr : r = -1
  · subst hr
    refine Or.inr ?_
    obtain ⟨w', hact9⟩ := n_can hM.re hWm.1 hRm.1 e2'
    obtain ⟨A', hact', hR', hw'⟩ := act_abs hWm hRm hact9
    have hact : ActA (S m) (nI s) num x y z A' := by
      rcases Nat.lt_or_ge s 2 with c | c
      · obtain ⟨f1, f2, f3⟩ := h1 c
        rw [f1, f2, f3] at hact'; exact hact'
      · exact hact'.any (by omega) x y z
    have hk : kn x < 128 ∧ kn y < 128 ∧ kn z < 128 := by
      rcases Nat.lt_or_ge s 2 with c | c
      · rcases hact with ⟨_, _, _, _, _, _, q, _⟩ | ⟨_, _, _, _, _, q, _⟩ | ⟨q, _⟩ | ⟨q, _, _⟩
        · exact (row_k q).2.1
        · exact (row_k q).2.1
        · have := nI_inj (b := 2) q (by omega) (by omega)
          omega
        · rename_i q2 _ _
          rcases (by omega : s = 0 ∨ s = 1) with rfl | rfl
          · exact absurd rfl q
          · exact absurd rfl (by assumption)
      · obtain ⟨f1, f2, f3⟩ := h2 c
        rw [f1, f2, f3]; decide
    obtain ⟨a, v, b, S', g1, g2, g3, g4, g5, g6, g7, g8, g9, g10, g11, g12, g13, g14, g15⟩ := act_both hM hA9 h hC hJ hs hk hact hact9 hR' hw' e1
    refine ⟨A', a, v, b, S', hact, ?_, g1, g2, g3, g4, g5, g6, g7, g8, g9, g10, g11, g12, g13, g14, g15⟩
    rw [why_cong (I := I) (by rw [g3.hi (by omega)]) (g3.hi (by omega)) (g3.hi (by omega))]; exact e2'
  · refine Or.inl ?_
    have e4 : ∃ n, n < 4 ∧ r = nI n := by
      rcases e3 with q | q | q | q | q
      · exact ⟨0, by omega, q⟩
      · exact ⟨1, by omega, q⟩
      · exact ⟨2, by omega, q⟩
      · exact ⟨3, by omega, q⟩
      · exact absurd q hr
    obtain ⟨n, hn, rfl⟩ := e4
    refine ⟨n, hn, ?_, e2'⟩
    unfold fX8_attempt
    rw [e1, obs, if_neg hr]
/-- scripts, told alike -/
def stepOK (st : Nat × Nat × List Nat) : Prop := st.1 < 4 ∧ (2 ≤ st.1 → st.2.2 = [])
def SCR (I : gM) : Prop := I 0 14 = I 62 12 ∧ ∀ s, s < 4 → s < (I 62 12).toInt.toNat → ∃ ss, ScK I (54 + 2 * s) ss ∧ I 69 s = nI ss.length ∧ (∀ a, a < 5 * ss.length → I 68 (60 * s + a) = se (ss.getD (a / 5) (0, 0, [])) (a % 5)) ∧ ∀ i, i < ss.length → stepOK (ss.getD i (0, 0, []))
/-- all that the two objects keep in common -/
def InvA (C : Nat) (I : gM) : Prop := MI true I I ∧ A9 I ∧ TPR I ∧ SCR I ∧ InvR C I
theorem TPR.keep {I r : gM} (h : TPR I) (h1 : r 1 0 = I 1 0) (h2 : r 2 = I 2) (h62 : r 62 2 = I 62 2) (h63 : r 63 = I 63) : TPR r := by
  obtain ⟨n, hn, t1, t2, t3⟩ := h
  exact ⟨n, hn, by rw [h1]; exact t1, by rw [h62]; exact t2, fun j hj => by rw [h2, h63]; exact t3 j hj⟩
theorem SCR.keep {I r : gM} (h : SCR I) (h0 : r 0 14 = I 0 14) (h12 : r 62 12 = I 62 12) (h8 : ∀ k, 54 ≤ k → k ≤ 61 → r k = I k) (h68 : ∀ a, a < 240 → r 68 a = I 68 a) (h69 : ∀ s, s < 4 → r 69 s = I 69 s) : SCR r := by
  refine ⟨by rw [h0, h12]; exact h.1, fun s hs hc => ?_⟩
  rw [h12] at hc
  obtain ⟨ss, ⟨k1, k2, k3⟩, b, c, d⟩ := h.2 s hs hc
  exact ⟨ss, ⟨by rw [h8 _ (by omega) (by omega)]; exact k1, k2, fun a ha => by rw [h8 _ (by omega) (by omega)]; exact k3 a ha⟩, by rw [h69 s hs]; exact b, fun a ha => by rw [h68 _ (by omega)]; exact c a ha, d⟩
/-- an act called for: refused by both with one more told, or done -/
theorem hand_both {C : Nat} {I : gM} (h : InvA C I) (hC : C ≤ 3) (hJ : C = 3 → JE ∧ I 22 0 = 0) {s : Nat} (hs : s < 4) (num x y z x' y' z' : Int32) (h2 : 2 ≤ s → x = -1 ∧ y = -1 ∧ z = -1) (h1 : s < 2 → x' = x ∧ y' = y ∧ z' = z) :
    ∃ d a v b, fX8_isDone (nI s) num x y z I = some (d, a) ∧ fX9_hand (nI s) num x' y' z' a = some (v, b) ∧ InvA C b ∧
      ((d = 0 ∧ v = -1) ∨ (d = 1 ∧ ∃ A A', WF A ∧ CT I 3 A ∧ WF A' ∧ CT a 3 A' ∧ MI true I a ∧ A'.1.length = A.1.length ∧ (s < 2 → ∃ t, t < A.1.length ∧ num = nI t ∧ v = nI (aK A' t).length) ∧ (s = 2 → ∃ t, t < A.1.length ∧ num = nI t ∧ v = if A'.2.1.testBit t then 1 else 0) ∧ (s = 3 → v = nI A.2.2))) := by
  obtain ⟨hM, hA9, hT, hS, S, m, nx, hR⟩ := h
  rcases try_both hM hA9 hR hC hJ hs num x y z x' y' z' h2 h1 with ⟨r, hr, e1, e2⟩ | ⟨A', a, v, b, S', hact, e2, e1, e3, Ma, Mb, hAb, hRb, hSA, hWA, hCA, f8, f62, f9, v1, v2, v3⟩
  · have eD : fX8_isDone (nI s) num x y z I = some (0, g_up I 53 r (I 53 r + 1)) := by
      unfold fX8_isDone bX8_isDone_35
      rw [e1, obs]
      dsimp only
      rw [L0, if_neg (mt (nI_ltI (by omega) (by omega)).mp (by omega)), L4, if_neg (mt (nI_leI (by omega) (by omega)).mp (by omega)), rI_n hr (by omega), obs, wI_n hr (by omega), obs, if_neg (nI_m1 (by omega))]
    have Ma : MI true I (g_up I 53 r (I 53 r + 1)) := hM.up (k := 53) rfl (lo := -2147483648) (hi := 2147483647) rfl (tTop _).1 (tTop _).2
    generalize hg : g_up I 53 r (I 53 r + 1) = a at *
    have ak : ∀ k, k ≠ 53 → a k = I k := fun k hk => by rw [← hg, g_up_row hk]
    have eH : fX9_hand (nI s) num x' y' z' a = some (-1, g_up a 71 r (a 71 r + 1)) := by
      unfold fX9_hand
      rw [why_cong (I := I) (by rw [ak 62 (by decide)]) (ak 70 (by decide)) (ak 72 (by decide)), e2, obs, if_neg (nI_m1 (by omega)), rI_n hr (by omega), obs, wI_n hr (by omega), obs]
    have Mb : MI false a (g_up a 71 r (a 71 r + 1)) := (Ma.re (b' := false)).up (k := 71) rfl (lo := -2147483648) (hi := 2147483647) rfl (tTop _).1 (tTop _).2
    have bk : ∀ k, k ≠ 53 → k ≠ 71 → g_up a 71 r (a 71 r + 1) k = I k := fun k h1 h2 => by rw [g_up_row h2, ak k h1]
    refine ⟨0, a, -1, _, eD, eH, ⟨Ma.both Mb, ?_, ?_, ?_, S, m, nx, ?_⟩, Or.inl ⟨rfl, rfl⟩⟩
    · exact hA9.same (by rw [bk 62 (by decide) (by decide)]) (by rw [bk 62 (by decide) (by decide)]) (by rw [bk 62 (by decide) (by decide)]) (fun k hk => bk k (by omega) (by omega))
    · exact hT.keep (by rw [bk 1 (by decide) (by decide)]) (bk 2 (by decide) (by decide)) (by rw [bk 62 (by decide) (by decide)]) (bk 63 (by decide) (by decide))
    · exact hS.keep (by rw [bk 0 (by decide) (by decide)]) (by rw [bk 62 (by decide) (by decide)]) (fun k _ _ => bk k (by omega) (by omega)) (fun _ _ => by rw [bk 68 (by decide) (by decide)]) (fun _ _ => by rw [bk 69 (by decide) (by decide)])
    · refine hR.keepR hC (by rw [bk 0 (by decide) (by decide)]) (fun k _ => bk k (by omega) (by omega)) (fun j _ => by rw [bk 62 (by decide) (by decide)]) (fun k _ => bk k (by omega) (by omega)) (fun j hj => ?_)
      have q := hR.refs j hj
      rw [g_up_row (show 53 ≠ 71 by decide), ← hg, gu_in, gu_in, g_up_row (show 71 ≠ 53 by decide)]
      by_cases c : j = r
      · rw [if_pos c, if_pos c, ← c, q]
      · rw [if_neg c, if_neg c, q]
  · have eD : fX8_isDone (nI s) num x y z I = some (1, a) := by
      unfold fX8_isDone bX8_isDone_35
      rw [e1, obs]
      dsimp only
      rw [if_pos (by decide), if_pos rfl]
    have eH : fX9_hand (nI s) num x' y' z' a = some (v, b) := by
      unfold fX9_hand
      rw [e2, obs, if_pos rfl, e3, obs]
    have lo : ∀ k, k < 62 → b k = a k := fun k hk => Mb.lo hk
    have hi : ∀ k, 62 ≤ k → a k = I k := fun k hk => Ma.hi hk
    have hlen : A'.1.length = (S m).1.length := by
      have q1 := hRb.2.2.1.2.1.1
      rw [hSA, f62 17 (by omega) (by omega) (by omega) (by omega), hi 62 (by omega), hR.2.2.1.2.1.1] at q1
      exact (nI_inj q1 (by have := (hR.2.1 m (Nat.le_refl _)).1; omega) (by have := hWA.1; omega)).symm
    refine ⟨1, a, v, b, eD, eH, ⟨Ma.both Mb, hAb, ?_, ?_, S', _, _, hRb⟩, Or.inr ⟨rfl, S m, A', hR.2.1 m (Nat.le_refl _), hR.2.2.1.1, hWA, hCA, Ma, hlen, v1, v2, v3⟩⟩
    · exact hT.keep (by rw [lo 1 (by decide), f8 1 (by omega)]) (by rw [lo 2 (by decide), f8 2 (by omega)]) (by rw [f62 2 (by omega) (by omega) (by omega) (by omega), hi 62 (by omega)]) (by rw [f9 63 (by omega) (by omega) (by omega) (by omega) (by omega) (by omega) (by omega) (by omega) (by omega) (by omega), hi 63 (by omega)])
    · exact hS.keep (by rw [lo 0 (by decide), f8 0 (by omega)]) (by rw [f62 12 (by omega) (by omega) (by omega) (by omega), hi 62 (by omega)]) (fun k _ _ => by rw [lo k (by omega), f8 k (by omega)]) (fun _ _ => by rw [f9 68 (by omega) (by omega) (by omega) (by omega) (by omega) (by omega) (by omega) (by omega) (by omega) (by omega), hi 68 (by omega)]) (fun _ _ => by rw [f9 69 (by omega) (by omega) (by omega) (by omega) (by omega) (by omega) (by omega) (by omega) (by omega) (by omega), hi 69 (by omega)])
