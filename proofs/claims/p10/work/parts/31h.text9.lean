theorem n_take10 {I0 I : gM} (hM : MI false I0 I) : T (lX9_takeTables_10 (nI 0, I)) (fun r => MI false I0 r ∧ (∀ q, q ≠ 70 → r q = I q) ∧ ∀ a, a < 331 → r 70 a = 0) := by
  unfold lX9_takeTables_10
  refine t_it (P := fun s => ∃ k, s.1 = nI k ∧ k ≤ 331 ∧ MI false I0 s.2 ∧ (∀ q, q ≠ 70 → s.2 q = I q) ∧ ∀ a, a < k → s.2 70 a = 0) (μ := fun s => 400 - s.1.toInt.toNat) (fun s p => ?_) ⟨0, rfl, by omega, hM, fun _ _ => rfl, fun a h => absurd h (by omega)⟩
  obtain ⟨s1, s2⟩ := s
  obtain ⟨k, e1, hk, h1, h2, h3⟩ := p
  dsimp only at e1 h1 h2 h3
  subst e1
  dsimp only
  refine t_ite (fun c => ?_) (fun c => ?_)
  · have c := (nI_leI (a := 331) (b := k) (by omega) (by omega)).mp c
    exact t_ret (show MI false I0 s2 ∧ _ from ⟨h1, h2, fun a ha => h3 a (by omega)⟩)
  · have c := mt (nI_leI (a := 331) (b := k) (by omega) (by omega)).mpr c
    refine t_be (wI_n (by omega) (by omega)) ?_
    rw [nI_1]
    refine t_nx ?_ (show 400 - (nI (k + 1)).toInt.toNat < 400 - (nI k).toInt.toNat by rw [nIt (by omega), nIt (by omega)]; omega)
    refine ⟨k + 1, rfl, by omega, h1.up (k := 70) (lo := (rgNow k).1) (hi := (rgNow k).2) rfl rfl ?_ ?_, fun q hq => ?_, fun a ha => ?_⟩
    · have z : (0 : Int32).toInt = 0 := rfl
      rw [z]; unfold rgNow; split <;> (try split) <;> (try split) <;> (try split) <;> decide
    · have z : (0 : Int32).toInt = 0 := rfl
      rw [z]; unfold rgNow; split <;> (try split) <;> (try split) <;> (try split) <;> decide
    · dsimp only; rw [g_up_row hq]; exact h2 q hq
    · dsimp only
      rw [gu_in]
      by_cases d : a = k
      · rw [if_pos d]
      · rw [if_neg d]; exact h3 a (by omega)
theorem n_takeTables {I0 I : gM} {ts : List (List Nat × List (List Nat))} (hM : MI false I0 I) (hC : TsC I ts) : ∃ r, fX9_takeTables I = some (nI ts.length, r) ∧ MI false I0 r ∧ A9 r ∧ r 62 17 = nI ts.length := by
  obtain ⟨h9, hl, hC⟩ := hC
  unfold fX9_takeTables
  rw [pU_n, obs, h9]
  have hM1 : MI false I0 (g_up I 62 17 (nI ts.length)) := hM.up (k := 62) rfl (lo := 0) (hi := 4) rfl (by rw [tnI (by omega)]; omega) (by rw [tnI (by omega)]; omega)
  obtain ⟨w3, e3, hM3, f3, z3⟩ := n_take10 hM1
  rw [show (((0 : Int32)), g_up I 62 17 (nI ts.length)) = (nI 0, g_up I 62 17 (nI ts.length)) from rfl, e3, obs]
  rw [show wI w3 70 331 0 (((1 : Int32) <<< ((w3 62 17) &&& 31)) - 1) = some (g_up w3 70 0 (((1 : Int32) <<< ((w3 62 17) &&& 31)) - 1)) from wI_n (a := 0) (by omega) (by omega), obs]
  have tp := tTop (((1 : Int32) <<< ((w3 62 17) &&& 31)) - 1)
  have hM4 : MI false I0 (g_up w3 70 0 (((1 : Int32) <<< ((w3 62 17) &&& 31)) - 1)) := hM3.up (k := 70) rfl (lo := top.1) (hi := top.2) rfl tp.1 tp.2
  generalize hN : g_up w3 70 0 (((1 : Int32) <<< ((w3 62 17) &&& 31)) - 1) = N
  rw [hN] at hM4
  have Nk : ∀ q, q ≠ 70 → N q = g_up I 62 17 (nI ts.length) q := fun q hq => by rw [← hN, g_up_row hq]; exact f3 q hq
  have N0 : ∀ a, 0 < a → a < 331 → N 70 a = 0 := fun a h1 h2 => by rw [← hN, g_up_ne (Or.inr (by omega))]; exact z3 a h2
  have N17 : N 62 17 = nI ts.length := by rw [Nk 62 (by decide), g_up_self]
  have NC : ∀ k, k ≠ 62 → k ≠ 70 → N k = I k := fun k h1 h2 => by rw [Nk k h2, g_up_row h1]
  have key : T (lX9_takeTables_46 (nI 0, N)) (fun r => MI false I0 r ∧ r 62 = N 62 ∧ okW ts.length (r 72) (r 70)) := by
    unfold lX9_takeTables_46
    refine t_it (P := fun s => ∃ t, s.1 = nI t ∧ t ≤ ts.length ∧ MI false I0 s.2 ∧ (∀ q, q ≠ 70 → q ≠ 72 → q ≠ 73 → s.2 q = N q) ∧ (∀ i, t ≤ i → i < 4 → s.2 70 (2 + i) = 0) ∧ okW t (s.2 72) (s.2 70)) (μ := fun s => 20 - s.1.toInt.toNat) (fun s p => ?_) ⟨0, rfl, by omega, hM4, fun _ _ _ _ => rfl, fun i _ hi => N0 _ (by omega) (by omega), fun t ht => absurd ht (by omega)⟩
    obtain ⟨s1, s2⟩ := s
    obtain ⟨t, e1, ht, h1, h2, h3, h4⟩ := p
    dsimp only at e1 h1 h2 h3 h4
    subst e1
    dsimp only
    have e17 : s2 62 17 = nI ts.length := by rw [h2 62 (by decide) (by decide) (by decide), N17]
    refine t_ite (fun c => ?_) (fun c => ?_)
    · rw [e17] at c
      have c := (nI_leI (by omega) (by omega)).mp c
      have : t = ts.length := by omega
      subst this
      exact t_ret (show MI false I0 s2 ∧ _ from ⟨h1, h2 62 (by decide) (by decide) (by decide), h4⟩)
    · rw [e17] at c
      have c := mt (nI_leI (a := ts.length) (b := t) (by omega) (by omega)).mpr c
      obtain ⟨hok, c64, c65, c66, c67⟩ := hC t _ (List.getElem?_eq_getElem (by omega))
      have o3 := hok.2.1
      have o12 := hok.2.2.1
      refine t_be (rI_n (by omega) (by omega)) ?_
      refine t_be (wI_n (by omega) (by omega)) ?_
      have e64 : s2 64 t = nI ts[t].1.length := by rw [h2 64 (by decide) (by decide) (by decide), NC 64 (by decide) (by decide)]; exact c64
      have hM5 : MI false I0 (g_up s2 72 t (s2 64 t)) := h1.up (k := 72) rfl (lo := 0) (hi := 3) rfl (by rw [e64, tnI (by omega)]; omega) (by rw [e64, tnI (by omega)]; omega)
      rw [L0]
      refine t_bind (n_take68 (by omega) hM5) (fun w9 ⟨hM9, f9, _⟩ => ?_)
      have hC9 : TbC w9 t ts[t] := by
        refine ⟨?_, fun c hc => ?_, ?_, fun j hj c hc => ?_⟩
        · rw [f9 64 (by decide), g_up_row (by decide)]; exact e64
        · rw [f9 65 (by decide), g_up_row (by decide), h2 65 (by decide) (by decide) (by decide), NC 65 (by decide) (by decide)]; exact c65 c hc
        · rw [f9 66 (by decide), g_up_row (by decide), h2 66 (by decide) (by decide) (by decide), NC 66 (by decide) (by decide)]; exact c66
        · rw [f9 67 (by decide), g_up_row (by decide), h2 67 (by decide) (by decide) (by decide), NC 67 (by decide) (by decide)]; exact c67 j hj c hc
      have e70 : w9 70 = s2 70 := by rw [f9 70 (by decide), g_up_row (by decide)]
      refine t_bind (n_take101 (by omega) hM9 hC9 hok (by rw [e70]; exact h3 t (by omega) (by omega))) (fun w19 ⟨hM19, f19, r19, o19⟩ => ?_)
      rw [nI_1]
      refine t_nx ?_ (show 20 - (nI (t + 1)).toInt.toNat < 20 - (nI t).toInt.toNat by rw [nIt (by omega), nIt (by omega)]; omega)
      have e72 : ∀ a, w19 72 a = if a = t then nI ts[t].1.length else s2 72 a := fun a => by rw [f19 72 (by decide), f9 72 (by decide), gu_in, e64]
      refine ⟨t + 1, rfl, by omega, hM19, fun q h70 h72 h73 => ?_, fun i hi hi4 => ?_, fun i hi j hj c hc => ?_⟩
      · dsimp only
        rw [f19 q h70, f9 q h73, g_up_row h72]; exact h2 q h70 h72 h73
      · dsimp only
        rw [o19 _ (by omega) (by omega), e70]; exact h3 i (by omega) hi4
      · dsimp only at hj hc ⊢
        rw [e72] at hc
        by_cases d : i = t
        · subst d
          rw [if_pos rfl, nIt (by omega)] at hc
          exact r19 j hj _ hc
        · rw [if_neg d] at hc
          rw [o19 _ (by omega) (by omega), e70] at hj
          have rw2 : rW (s2 70) := fun j => h1.1 70 j
          have := rw2.m (t := i) (by omega)
          have hc3 := (h1.at (k := 72) (j := i) (lo := 0) (hi := 3) rfl).2
          rw [o19 _ (by omega) (by omega), e70]
          exact h4 i (by omega) j hj c hc
  obtain ⟨w20, e20, hM20, f20, ok20⟩ := key
  rw [show (((0 : Int32)), N) = (nI 0, N) from rfl, e20, obs, pU_n, obs, pU_n, obs]
  have hA : MI false I0 (g_up (g_up w20 62 29 0) 62 42 0) := (hM20.up (k := 62) (j := 29) rfl (lo := 0) (hi := 40) rfl (by decide) (by decide)).up (k := 62) (j := 42) rfl (lo := 0) (hi := 1) rfl (by decide) (by decide)
  have e17 : g_up (g_up w20 62 29 0) 62 42 0 62 17 = nI ts.length := by
    rw [g_up_ne (Or.inr (by decide)), g_up_ne (Or.inr (by decide)), f20, N17]
  refine ⟨_, by rw [e17], hA, ⟨?_, fun a ha => ?_, fun h => ?_⟩, e17⟩
  · rw [e17, nIt (by omega), g_up_row (by decide), g_up_row (by decide), g_up_row (by decide), g_up_row (by decide)]
    exact ok20
  · rw [g_up_ne (Or.inr (by decide)), g_up_self] at ha
    exact absurd ha (Nat.not_lt_zero a)
  · rw [g_up_self] at h
    exact absurd rfl h
theorem A9.frame {I r : gM} (h : A9 I) (hx : ∀ q j, q ≠ 62 ∨ (j ≠ 2 ∧ j ≠ 3 ∧ j ≠ 4 ∧ j ≠ 9 ∧ j ≠ 12) → q ≠ 64 → q ≠ 65 → q ≠ 66 → q ≠ 67 → q ≠ 68 → q ≠ 69 → r q j = I q j) : A9 r :=
  h.same (hx 62 17 (Or.inr (by decide)) (by decide) (by decide) (by decide) (by decide) (by decide) (by decide)) (hx 62 29 (Or.inr (by decide)) (by decide) (by decide) (by decide) (by decide) (by decide) (by decide)) (hx 62 42 (Or.inr (by decide)) (by decide) (by decide) (by decide) (by decide) (by decide) (by decide)) (fun k hk => funext fun j => by
    rcases hk with rfl | rfl | rfl | rfl <;> exact hx _ j (Or.inl (by decide)) (by decide) (by decide) (by decide) (by decide) (by decide) (by decide))
