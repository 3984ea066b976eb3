/-! the reference: copies of the state -/
theorem rg81 (A k : Nat) (h : k < 331) : rg 81 (331 * A + k) = rgNow k := by
  show rgNow ((331 * A + k) % 331) = rgNow k
  rw [show (331 * A + k) % 331 = k by omega]
theorem MI.up' {b : Bool} {I0 I : gM} (h : MI b I0 I) {k j : Nat} {v : Int32} (hk : Nat.ble 62 k = !b) (hv : (rg k j).1 ≤ v.toInt ∧ v.toInt ≤ (rg k j).2) : MI b I0 (g_up I k j v) := h.up hk (lo := (rg k j).1) (hi := (rg k j).2) rfl hv.1 hv.2
theorem a331 (c j : Nat) : (331 : Int32) * nI c + nI j = nI (331 * c + j) := by rw [L331, nI_mul, nI_add]
theorem n_lX9_keep_54 {I0 I : gM} (hM : MI false I0 I) {A : Nat} (hA : A ≤ 39) (e : I 62 29 = nI A) : T (lX9_keep_54 (nI 0, I)) (fun r => MI false I0 r ∧ (∀ a, r 81 a = if 331 * A ≤ a ∧ a < 331 * A + 331 then I 70 (a - (331 * A) + (0)) else I 81 a) ∧ ∀ k, k ≠ 81 → r k = I k) := by
  unfold lX9_keep_54
  refine t_it (P := fun s => ∃ k, s.1 = nI k ∧ k ≤ 331 ∧ MI false I0 s.2 ∧ (∀ a, s.2 81 a = if 331 * A ≤ a ∧ a < 331 * A + k then I 70 (a - (331 * A) + (0)) else I 81 a) ∧ ∀ k, k ≠ 81 → s.2 k = I k) (μ := fun s => 400 - s.1.toInt.toNat) (fun s p => ?_) ⟨0, rfl, by omega, hM, fun a => by rw [if_neg (by omega)], fun _ _ => rfl⟩
  obtain ⟨s1, s2⟩ := s
  obtain ⟨k, e1, h1, hM2, h2, h3⟩ := p
  dsimp only at e1 hM2 h2 h3
  subst e1
  dsimp only
  refine t_ite (fun c => ?_) (fun c => ?_)
  · have c := (nI_leI (a := 331) (by omega) (by omega)).mp c
    obtain rfl : k = 331 := by omega
    exact t_ret ⟨hM2, h2, h3⟩
  · have c := mt (nI_leI (a := 331) (b := k) (by omega) (by omega)).mpr c
    rw [h3 62 (by omega), e, a331]
    refine t_be (rI_n (a := k) (by omega) (by omega)) (t_be (wI_n (a := 331 * A + k) (by omega) (by omega)) ?_)
    refine t_nx ?_ (by show 400 - (nI k + 1).toInt.toNat < 400 - (nI k).toInt.toNat; rw [nI_1, nIt (by omega), nIt (by omega)]; omega)
    dsimp only
    have hv := hM2.1 70 (k)
    rw [show rg 70 k = rgNow k from rfl] at hv
    refine ⟨k + 1, nI_1 k, by omega, hM2.up (k := 81) (j := 331 * A + k) rfl (lo := (rgNow k).1) (hi := (rgNow k).2) (by rw [rg81 A k (by omega)]) hv.1 hv.2, fun a => ?_, fun q hq => ?_⟩
    · rw [gu_in]
      by_cases z : a = 331 * A + k
      · rw [if_pos z, if_pos (by omega), h3 70 (by omega), show a - (331 * A) + (0) = k by omega]
      · rw [if_neg z, h2]
        by_cases y : 331 * A ≤ a ∧ a < 331 * A + k
        · rw [if_pos y, if_pos (by omega)]
        · rw [if_neg y, if_neg (by omega)]
    · rw [g_up_row hq]; exact h3 q hq
theorem n_lX9_undo_21 {I0 I : gM} (hM : MI false I0 I) {A : Nat} (hA : A ≤ 39) (e : I 62 29 = nI A) : T (lX9_undo_21 (nI 0, I)) (fun r => MI false I0 r ∧ (∀ a, r 70 a = if 0 ≤ a ∧ a < 0 + 331 then I 81 (a - (0) + (331 * A)) else I 70 a) ∧ ∀ k, k ≠ 70 → r k = I k) := by
  unfold lX9_undo_21
  refine t_it (P := fun s => ∃ k, s.1 = nI k ∧ k ≤ 331 ∧ MI false I0 s.2 ∧ (∀ a, s.2 70 a = if 0 ≤ a ∧ a < 0 + k then I 81 (a - (0) + (331 * A)) else I 70 a) ∧ ∀ k, k ≠ 70 → s.2 k = I k) (μ := fun s => 400 - s.1.toInt.toNat) (fun s p => ?_) ⟨0, rfl, by omega, hM, fun a => by rw [if_neg (by omega)], fun _ _ => rfl⟩
  obtain ⟨s1, s2⟩ := s
  obtain ⟨k, e1, h1, hM2, h2, h3⟩ := p
  dsimp only at e1 hM2 h2 h3
  subst e1
  dsimp only
  refine t_ite (fun c => ?_) (fun c => ?_)
  · have c := (nI_leI (a := 331) (by omega) (by omega)).mp c
    obtain rfl : k = 331 := by omega
    exact t_ret ⟨hM2, h2, h3⟩
  · have c := mt (nI_leI (a := 331) (b := k) (by omega) (by omega)).mpr c
    rw [h3 62 (by omega), e, a331]
    refine t_be (rI_n (a := 331 * A + k) (by omega) (by omega)) (t_be (wI_n (a := k) (by omega) (by omega)) ?_)
    refine t_nx ?_ (by show 400 - (nI k + 1).toInt.toNat < 400 - (nI k).toInt.toNat; rw [nI_1, nIt (by omega), nIt (by omega)]; omega)
    dsimp only
    have hv := hM2.1 81 (331 * A + k)
    rw [rg81 A k (by omega)] at hv
    refine ⟨k + 1, nI_1 k, by omega, hM2.up (k := 70) (j := k) rfl (lo := (rgNow k).1) (hi := (rgNow k).2) (by rw [show rg 70 k = rgNow k from rfl]) hv.1 hv.2, fun a => ?_, fun q hq => ?_⟩
    · rw [gu_in]
      by_cases z : a = k
      · rw [if_pos z, if_pos (by omega), h3 81 (by omega), show a - (0) + (331 * A) = 331 * A + k by omega]
      · rw [if_neg z, h2]
        by_cases y : 0 ≤ a ∧ a < 0 + k
        · rw [if_pos y, if_pos (by omega)]
        · rw [if_neg y, if_neg (by omega)]
    · rw [g_up_row hq]; exact h3 q hq
theorem n_lX9_image_11 {I0 I : gM} (hM : MI false I0 I) : T (lX9_image_11 (nI 0, I)) (fun r => MI false I0 r ∧ (∀ a, r 89 a = if 0 ≤ a ∧ a < 0 + 331 then I 70 (a - (0) + (0)) else I 89 a) ∧ ∀ k, k ≠ 89 → r k = I k) := by
  unfold lX9_image_11
  refine t_it (P := fun s => ∃ k, s.1 = nI k ∧ k ≤ 331 ∧ MI false I0 s.2 ∧ (∀ a, s.2 89 a = if 0 ≤ a ∧ a < 0 + k then I 70 (a - (0) + (0)) else I 89 a) ∧ ∀ k, k ≠ 89 → s.2 k = I k) (μ := fun s => 400 - s.1.toInt.toNat) (fun s p => ?_) ⟨0, rfl, by omega, hM, fun a => by rw [if_neg (by omega)], fun _ _ => rfl⟩
  obtain ⟨s1, s2⟩ := s
  obtain ⟨k, e1, h1, hM2, h2, h3⟩ := p
  dsimp only at e1 hM2 h2 h3
  subst e1
  dsimp only
  refine t_ite (fun c => ?_) (fun c => ?_)
  · have c := (nI_leI (a := 331) (by omega) (by omega)).mp c
    obtain rfl : k = 331 := by omega
    exact t_ret ⟨hM2, h2, h3⟩
  · have c := mt (nI_leI (a := 331) (b := k) (by omega) (by omega)).mpr c
    refine t_be (rI_n (a := k) (by omega) (by omega)) (t_be (wI_n (a := k) (by omega) (by omega)) ?_)
    refine t_nx ?_ (by show 400 - (nI k + 1).toInt.toNat < 400 - (nI k).toInt.toNat; rw [nI_1, nIt (by omega), nIt (by omega)]; omega)
    dsimp only
    have hv := hM2.1 70 (k)
    rw [show rg 70 k = rgNow k from rfl] at hv
    refine ⟨k + 1, nI_1 k, by omega, hM2.up (k := 89) (j := k) rfl (lo := (rgNow k).1) (hi := (rgNow k).2) (by rw [show rg 89 k = rgNow k from rfl]) hv.1 hv.2, fun a => ?_, fun q hq => ?_⟩
    · rw [gu_in]
      by_cases z : a = k
      · rw [if_pos z, if_pos (by omega), h3 70 (by omega), show a - (0) + (0) = k by omega]
      · rw [if_neg z, h2]
        by_cases y : 0 ≤ a ∧ a < 0 + k
        · rw [if_pos y, if_pos (by omega)]
        · rw [if_neg y, if_neg (by omega)]
    · rw [g_up_row hq]; exact h3 q hq
theorem n_lX9_back_11 {I0 I : gM} (hM : MI false I0 I) : T (lX9_back_11 (nI 0, I)) (fun r => MI false I0 r ∧ (∀ a, r 70 a = if 0 ≤ a ∧ a < 0 + 331 then I 89 (a - (0) + (0)) else I 70 a) ∧ ∀ k, k ≠ 70 → r k = I k) := by
  unfold lX9_back_11
  refine t_it (P := fun s => ∃ k, s.1 = nI k ∧ k ≤ 331 ∧ MI false I0 s.2 ∧ (∀ a, s.2 70 a = if 0 ≤ a ∧ a < 0 + k then I 89 (a - (0) + (0)) else I 70 a) ∧ ∀ k, k ≠ 70 → s.2 k = I k) (μ := fun s => 400 - s.1.toInt.toNat) (fun s p => ?_) ⟨0, rfl, by omega, hM, fun a => by rw [if_neg (by omega)], fun _ _ => rfl⟩
  obtain ⟨s1, s2⟩ := s
  obtain ⟨k, e1, h1, hM2, h2, h3⟩ := p
  dsimp only at e1 hM2 h2 h3
  subst e1
  dsimp only
  refine t_ite (fun c => ?_) (fun c => ?_)
  · have c := (nI_leI (a := 331) (by omega) (by omega)).mp c
    obtain rfl : k = 331 := by omega
    exact t_ret ⟨hM2, h2, h3⟩
  · have c := mt (nI_leI (a := 331) (b := k) (by omega) (by omega)).mpr c
    refine t_be (rI_n (a := k) (by omega) (by omega)) (t_be (wI_n (a := k) (by omega) (by omega)) ?_)
    refine t_nx ?_ (by show 400 - (nI k + 1).toInt.toNat < 400 - (nI k).toInt.toNat; rw [nI_1, nIt (by omega), nIt (by omega)]; omega)
    dsimp only
    have hv := hM2.1 89 (k)
    rw [show rg 89 k = rgNow k from rfl] at hv
    refine ⟨k + 1, nI_1 k, by omega, hM2.up (k := 70) (j := k) rfl (lo := (rgNow k).1) (hi := (rgNow k).2) (by rw [show rg 70 k = rgNow k from rfl]) hv.1 hv.2, fun a => ?_, fun q hq => ?_⟩
    · rw [gu_in]
      by_cases z : a = k
      · rw [if_pos z, if_pos (by omega), h3 89 (by omega), show a - (0) + (0) = k by omega]
      · rw [if_neg z, h2]
        by_cases y : 0 ≤ a ∧ a < 0 + k
        · rw [if_pos y, if_pos (by omega)]
        · rw [if_neg y, if_neg (by omega)]
    · rw [g_up_row hq]; exact h3 q hq
theorem n_lX9_putAside_2 {I0 I : gM} (hM : MI false I0 I) : T (lX9_putAside_2 (nI 0, I)) (fun r => MI false I0 r ∧ (∀ a, r 88 a = if 0 ≤ a ∧ a < 0 + 150 then I 70 (a - (0) + (0)) else I 88 a) ∧ ∀ k, k ≠ 88 → r k = I k) := by
  unfold lX9_putAside_2
  refine t_it (P := fun s => ∃ k, s.1 = nI k ∧ k ≤ 150 ∧ MI false I0 s.2 ∧ (∀ a, s.2 88 a = if 0 ≤ a ∧ a < 0 + k then I 70 (a - (0) + (0)) else I 88 a) ∧ ∀ k, k ≠ 88 → s.2 k = I k) (μ := fun s => 400 - s.1.toInt.toNat) (fun s p => ?_) ⟨0, rfl, by omega, hM, fun a => by rw [if_neg (by omega)], fun _ _ => rfl⟩
  obtain ⟨s1, s2⟩ := s
  obtain ⟨k, e1, h1, hM2, h2, h3⟩ := p
  dsimp only at e1 hM2 h2 h3
  subst e1
  dsimp only
  refine t_ite (fun c => ?_) (fun c => ?_)
  · have c := (nI_leI (a := 150) (by omega) (by omega)).mp c
    obtain rfl : k = 150 := by omega
    exact t_ret ⟨hM2, h2, h3⟩
  · have c := mt (nI_leI (a := 150) (b := k) (by omega) (by omega)).mpr c
    refine t_be (rI_n (a := k) (by omega) (by omega)) (t_be (wI_n (a := k) (by omega) (by omega)) ?_)
    refine t_nx ?_ (by show 400 - (nI k + 1).toInt.toNat < 400 - (nI k).toInt.toNat; rw [nI_1, nIt (by omega), nIt (by omega)]; omega)
    dsimp only
    have hv := hM2.1 70 (k)
    rw [show rg 70 k = rgNow k from rfl] at hv
    refine ⟨k + 1, nI_1 k, by omega, hM2.up (k := 88) (j := k) rfl (lo := (rgNow k).1) (hi := (rgNow k).2) (by rw [show rg 88 k = rgNow k from rfl]) hv.1 hv.2, fun a => ?_, fun q hq => ?_⟩
    · rw [gu_in]
      by_cases z : a = k
      · rw [if_pos z, if_pos (by omega), h3 70 (by omega), show a - (0) + (0) = k by omega]
      · rw [if_neg z, h2]
        by_cases y : 0 ≤ a ∧ a < 0 + k
        · rw [if_pos y, if_pos (by omega)]
        · rw [if_neg y, if_neg (by omega)]
    · rw [g_up_row hq]; exact h3 q hq
theorem n_lX9_bringBack_2 {I0 I : gM} (hM : MI false I0 I) : T (lX9_bringBack_2 (nI 0, I)) (fun r => MI false I0 r ∧ (∀ a, r 70 a = if 0 ≤ a ∧ a < 0 + 150 then I 88 (a - (0) + (0)) else I 70 a) ∧ ∀ k, k ≠ 70 → r k = I k) := by
  unfold lX9_bringBack_2
  refine t_it (P := fun s => ∃ k, s.1 = nI k ∧ k ≤ 150 ∧ MI false I0 s.2 ∧ (∀ a, s.2 70 a = if 0 ≤ a ∧ a < 0 + k then I 88 (a - (0) + (0)) else I 70 a) ∧ ∀ k, k ≠ 70 → s.2 k = I k) (μ := fun s => 400 - s.1.toInt.toNat) (fun s p => ?_) ⟨0, rfl, by omega, hM, fun a => by rw [if_neg (by omega)], fun _ _ => rfl⟩
  obtain ⟨s1, s2⟩ := s
  obtain ⟨k, e1, h1, hM2, h2, h3⟩ := p
  dsimp only at e1 hM2 h2 h3
  subst e1
  dsimp only
  refine t_ite (fun c => ?_) (fun c => ?_)
  · have c := (nI_leI (a := 150) (by omega) (by omega)).mp c
    obtain rfl : k = 150 := by omega
    exact t_ret ⟨hM2, h2, h3⟩
  · have c := mt (nI_leI (a := 150) (b := k) (by omega) (by omega)).mpr c
    refine t_be (rI_n (a := k) (by omega) (by omega)) (t_be (wI_n (a := k) (by omega) (by omega)) ?_)
    refine t_nx ?_ (by show 400 - (nI k + 1).toInt.toNat < 400 - (nI k).toInt.toNat; rw [nI_1, nIt (by omega), nIt (by omega)]; omega)
    dsimp only
    have hv := hM2.1 88 (k)
    rw [show rg 88 k = rgNow k from rfl] at hv
    refine ⟨k + 1, nI_1 k, by omega, hM2.up (k := 70) (j := k) rfl (lo := (rgNow k).1) (hi := (rgNow k).2) (by rw [show rg 70 k = rgNow k from rfl]) hv.1 hv.2, fun a => ?_, fun q hq => ?_⟩
    · rw [gu_in]
      by_cases z : a = k
      · rw [if_pos z, if_pos (by omega), h3 88 (by omega), show a - (0) + (0) = k by omega]
      · rw [if_neg z, h2]
        by_cases y : 0 ≤ a ∧ a < 0 + k
        · rw [if_pos y, if_pos (by omega)]
        · rw [if_neg y, if_neg (by omega)]
    · rw [g_up_row hq]; exact h3 q hq
theorem n_keep13 {I0 I : gM} (hM : MI false I0 I) : T (lX9_keep_13 (nI 331, I)) (fun r => MI false I0 r ∧ (∀ a, r 81 a = if a < 12909 then I 81 (a + 331) else I 81 a) ∧ ∀ k, k ≠ 81 → r k = I k) := by
  unfold lX9_keep_13
  refine t_it (P := fun s => ∃ k, s.1 = nI k ∧ 331 ≤ k ∧ k ≤ 13240 ∧ MI false I0 s.2 ∧ (∀ a, s.2 81 a = if a + 331 < k then I 81 (a + 331) else I 81 a) ∧ ∀ k, k ≠ 81 → s.2 k = I k) (μ := fun s => 14000 - s.1.toInt.toNat) (fun s p => ?_) ⟨331, rfl, by omega, by omega, hM, fun a => by rw [if_neg (by omega)], fun _ _ => rfl⟩
  obtain ⟨s1, s2⟩ := s
  obtain ⟨k, e1, h0, h1, hM2, h2, h3⟩ := p
  dsimp only at e1 hM2 h2 h3
  subst e1
  dsimp only
  refine t_ite (fun c => ?_) (fun c => ?_)
  · have c := (nI_leI (a := 13240) (by omega) (by omega)).mp c
    refine t_ret ⟨hM2, fun a => ?_, h3⟩
    rw [h2]
    by_cases z : a < 12909
    · rw [if_pos z, if_pos (by omega)]
    · rw [if_neg z, if_neg (by omega)]
  · have c := mt (nI_leI (a := 13240) (b := k) (by omega) (by omega)).mpr c
    rw [L331, nI_sub (by omega)]
    refine t_be (rI_n (a := k) (by omega) (by omega)) (t_be (wI_n (a := k - 331) (by omega) (by omega)) ?_)
    refine t_nx ?_ (by show 14000 - (nI k + 1).toInt.toNat < 14000 - (nI k).toInt.toNat; rw [nI_1, nIt (by omega), nIt (by omega)]; omega)
    dsimp only
    have hv : (rg 81 (k - 331)).1 ≤ (s2 81 k).toInt ∧ (s2 81 k).toInt ≤ (rg 81 (k - 331)).2 := by
      have := hM2.1 81 k
      rw [show rg 81 (k - 331) = rg 81 k by show rgNow ((k - 331) % 331) = rgNow (k % 331); rw [show (k - 331) % 331 = k % 331 by omega]]
      exact this
    refine ⟨k + 1, nI_1 k, by omega, by omega, hM2.up' rfl hv, fun a => ?_, fun q hq => ?_⟩
    · rw [gu_in, h2, h2]
      by_cases z : a = k - 331
      · rw [if_pos z, if_neg (by omega), if_pos (by omega), show a + 331 = k by omega]
      · rw [if_neg z]
        by_cases y : a + 331 < k
        · rw [if_pos y, if_pos (by omega)]
        · rw [if_neg y, if_neg (by omega)]
    · rw [g_up_row hq]; exact h3 q hq
theorem n_note15 {I0 I : gM} (hM : MI false I0 I) : T (lX9_note_15 (nI 3, I)) (fun r => MI false I0 r ∧ (∀ a, r 70 a = if 151 ≤ a ∧ a < 328 then I 70 (a + 3) else I 70 a) ∧ ∀ k, k ≠ 70 → r k = I k) := by
  unfold lX9_note_15
  refine t_it (P := fun s => ∃ k, s.1 = nI k ∧ 3 ≤ k ∧ k ≤ 180 ∧ MI false I0 s.2 ∧ (∀ a, s.2 70 a = if 151 ≤ a ∧ a + 3 < 151 + k then I 70 (a + 3) else I 70 a) ∧ ∀ k, k ≠ 70 → s.2 k = I k) (μ := fun s => 400 - s.1.toInt.toNat) (fun s p => ?_) ⟨3, rfl, by omega, by omega, hM, fun a => by rw [if_neg (by omega)], fun _ _ => rfl⟩
  obtain ⟨s1, s2⟩ := s
  obtain ⟨k, e1, h0, h1, hM2, h2, h3⟩ := p
  dsimp only at e1 hM2 h2 h3
  subst e1
  dsimp only
  refine t_ite (fun c => ?_) (fun c => ?_)
  · have c := (nI_leI (a := 180) (by omega) (by omega)).mp c
    refine t_ret ⟨hM2, fun a => ?_, h3⟩
    rw [h2]
    by_cases z : 151 ≤ a ∧ a < 328
    · rw [if_pos z, if_pos (by omega)]
    · rw [if_neg z, if_neg (by omega)]
  · have c := mt (nI_leI (a := 180) (b := k) (by omega) (by omega)).mpr c
    rw [L151, nI_add, L3, nI_sub (by omega)]
    refine t_be (rI_n (a := 151 + k) (by omega) (by omega)) (t_be (wI_n (a := 151 + k - 3) (by omega) (by omega)) ?_)
    refine t_nx ?_ (by show 400 - (nI k + 1).toInt.toNat < 400 - (nI k).toInt.toNat; rw [nI_1, nIt (by omega), nIt (by omega)]; omega)
    dsimp only
    refine ⟨k + 1, nI_1 k, by omega, by omega, hM2.up (k := 70) (j := 151 + k - 3) rfl (lo := -2147483648) (hi := 2147483647) (rgN_t (by omega)) (tTop _).1 (tTop _).2, fun a => ?_, fun q hq => ?_⟩
    · rw [gu_in, h2, h2]
      by_cases z : a = 151 + k - 3
      · rw [if_pos z, if_neg (by omega), if_pos (by omega), show a + 3 = 151 + k by omega]
      · rw [if_neg z]
        by_cases y : 151 ≤ a ∧ a + 3 < 151 + k
        · rw [if_pos y, if_pos (by omega)]
        · rw [if_neg y, if_neg (by omega)]
    · rw [g_up_row hq]; exact h3 q hq
/-- the state is kept: where, and what is there behind it -/
def kp9 (A : Nat) (K w : Nat → Int32) : Nat → Int32 := fun a => if A = 40 then (if 12909 ≤ a ∧ a < 13240 then w (a - 12909) else if a < 12909 then K (a + 331) else K a) else (if 331 * A ≤ a ∧ a < 331 * A + 331 then w (a - 331 * A) else K a)
theorem n_keep {I0 I : gM} (hM : MI false I0 I) {A : Nat} (hA : A ≤ 40) (e : I 62 29 = nI A) : ∃ r, fX9_keep I = some r ∧ MI false I0 r ∧ r 62 29 = nI (if A = 40 then 40 else A + 1) ∧ r 81 = kp9 A (I 81) (I 70) ∧ (∀ j, j ≠ 29 → r 62 j = I 62 j) ∧ ∀ k, k ≠ 62 → k ≠ 81 → r k = I k := by
  have tail : ∀ (I1 : gM) (A1 : Nat), A1 ≤ 39 → MI false I0 I1 → I1 62 29 = nI A1 → ∃ r, bX9_keep_52 I1 = some r ∧ MI false I0 r ∧ r 62 29 = nI (A1 + 1) ∧ (∀ a, r 81 a = if 331 * A1 ≤ a ∧ a < 331 * A1 + 331 then I1 70 (a - 331 * A1) else I1 81 a) ∧ (∀ j, j ≠ 29 → r 62 j = I1 62 j) ∧ ∀ k, k ≠ 62 → k ≠ 81 → r k = I1 k := fun I1 A1 hA1 M1 e1 => by
    obtain ⟨w, ew, w1, w2, w3⟩ := n_lX9_keep_54 M1 hA1 e1
    have e2 : w 62 29 + 1 = nI (A1 + 1) := by rw [w3 62 (by omega), e1, nI_1]
    refine ⟨g_up w 62 29 (nI (A1 + 1)), ?_, w1.up (k := 62) rfl (lo := 0) (hi := 40) rfl (by rw [tnI (by omega)]; omega) (by rw [tnI (by omega)]; omega), g_up_self, fun a => ?_, fun j hj => ?_, fun k y1 y2 => ?_⟩
    · unfold bX9_keep_52
      rw [L0, ew, obs, e2, pU_n, obs]
    · rw [g_up_row (by omega), w2]; rfl
    · rw [g_up_ne (Or.inr hj), w3 62 (by omega)]
    · rw [g_up_row y1, w3 k y2]
  unfold fX9_keep
  by_cases c : A = 40
  · subst c
    rw [if_pos (show I 62 29 = (40 : Int32) from e)]
    obtain ⟨w, ew, w1, w2, w3⟩ := n_keep13 hM
    have e2 : w 62 29 - 1 = nI 39 := by rw [w3 62 (by omega), e]; rfl
    obtain ⟨r, er, r1, r2, r3, r4, r5⟩ := tail (g_up w 62 29 (nI 39)) 39 (by omega) (w1.up (k := 62) rfl (lo := 0) (hi := 40) rfl (by decide) (by decide)) g_up_self
    refine ⟨r, ?_, r1, by rw [r2, if_pos rfl], ?_, fun j hj => ?_, fun k y1 y2 => ?_⟩
    · rw [L331, ew, obs, e2, pU_n, obs, er]
    · funext a
      unfold kp9
      rw [if_pos rfl, r3, g_up_row (by omega), g_up_row (by omega), w3 70 (by omega), w2]
    · rw [r4 j hj, g_up_ne (Or.inr hj), w3 62 (by omega)]
    · rw [r5 k y1 y2, g_up_row y1, w3 k y2]
  · rw [if_neg (show ¬ I 62 29 = (40 : Int32) from fun q => c (nI_inj (b := 40) (e.symm.trans q) (by omega) (by omega)))]
    obtain ⟨r, er, r1, r2, r3, r4, r5⟩ := tail I A (by omega) hM e
    refine ⟨r, er, r1, by rw [r2, if_neg c], ?_, r4, r5⟩
    funext a
    unfold kp9
    rw [if_neg c, r3]
theorem n_undo {I0 I : gM} (hM : MI false I0 I) {A : Nat} (hA : A ≤ 40) (e : I 62 29 = nI A) (h : 0 < A) : ∃ r, fX9_undo I = some (nI (A - 1), r) ∧ MI false I0 r ∧ r 62 29 = nI (A - 1) ∧ (∀ a, r 70 a = if a < 331 then I 81 (331 * (A - 1) + a) else I 70 a) ∧ (∀ j, j ≠ 29 → r 62 j = I 62 j) ∧ ∀ k, k ≠ 62 → k ≠ 70 → r k = I k := by
  have e1 : I 62 29 - 1 = nI (A - 1) := by rw [e, nI_s1 h]
  obtain ⟨w, ew, w1, w2, w3⟩ := n_lX9_undo_21 (I := g_up I 62 29 (nI (A - 1))) (A := A - 1) (hM.up (k := 62) rfl (lo := 0) (hi := 40) rfl (by rw [tnI (by omega)]; omega) (by rw [tnI (by omega)]; omega)) (by omega) g_up_self
  have e29 : w 62 29 = nI (A - 1) := by rw [w3 62 (by omega), g_up_self]
  refine ⟨w, ?_, w1, e29, fun a => ?_, fun j hj => ?_, fun k y1 y2 => ?_⟩
  · unfold fX9_undo
    rw [if_neg (show ¬ I 62 29 = (0 : Int32) from fun q => by have := nI_inj (b := 0) (e.symm.trans q) (by omega) (by omega); omega), e1, pU_n, obs, L0, ew, obs, e29]
  · rw [w2, g_up_row (by omega), g_up_row (by omega)]
    by_cases z : a < 331
    · rw [if_pos ⟨by omega, by omega⟩, if_pos z, show a - 0 + 331 * (A - 1) = 331 * (A - 1) + a by omega]
    · rw [if_neg (by omega), if_neg z]
  · rw [w3 62 (by omega), g_up_ne (Or.inr hj)]
  · rw [w3 k y2, g_up_row y1]
theorem n_putAside {I0 I : gM} (hM : MI false I0 I) : ∃ r, fX9_putAside I = some r ∧ MI false I0 r ∧ (∀ a, a < 150 → r 88 a = I 70 a) ∧ ∀ k, k ≠ 88 → r k = I k := by
  obtain ⟨w, ew, w1, w2, w3⟩ := n_lX9_putAside_2 hM
  refine ⟨w, ?_, w1, fun a ha => ?_, w3⟩
  · unfold fX9_putAside
    rw [L0, ew, obs]
  · rw [w2, if_pos ⟨by omega, by omega⟩, show a - 0 + 0 = a by omega]
theorem n_bringBack {I0 I : gM} (hM : MI false I0 I) : ∃ r, fX9_bringBack I = some r ∧ MI false I0 r ∧ (∀ a, r 70 a = if a < 150 then I 88 a else I 70 a) ∧ ∀ k, k ≠ 70 → r k = I k := by
  obtain ⟨w, ew, w1, w2, w3⟩ := n_lX9_bringBack_2 hM
  refine ⟨w, ?_, w1, fun a => ?_, w3⟩
  · unfold fX9_bringBack
    rw [L0, ew, obs]
  · rw [w2]
    by_cases z : a < 150
    · rw [if_pos ⟨by omega, by omega⟩, if_pos z, show a - 0 + 0 = a by omega]
    · rw [if_neg (by omega), if_neg z]
