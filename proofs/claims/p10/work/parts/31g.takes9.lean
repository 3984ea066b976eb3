/-! the reference takes what it read -/
theorem insW_row {w : Nat → Int32} {t m i : Nat} {x y z : Int32} (ht : t < 4) (hm : m ≤ 11) (hi : i ≤ m) {wd : Nat} (hw : wd ≤ 3) (hr : ∀ c, c < wd → 0 ≤ (if c = 0 then x else if c = 1 then y else z).toInt) (hb : ∀ j, j < m → ∀ c, c < wd → 0 ≤ (w (6 + 3 * (12 * t + j) + c)).toInt) :
    ∀ j, j < m + 1 → ∀ c, c < wd → 0 ≤ (insW w t m i x y z (6 + 3 * (12 * t + j) + c)).toInt := by
  intro j hj c hc
  unfold insW
  rw [if_neg (by omega)]
  by_cases d : j = i
  · subst d
    have q := hr c hc
    by_cases c0 : c = 0
    · subst c0; rw [if_pos rfl] at q; rw [if_pos (by omega)]; exact q
    · rw [if_neg c0] at q
      rw [if_neg (by omega)]
      by_cases c1 : c = 1
      · subst c1; rw [if_pos rfl] at q; rw [if_pos (by omega)]; exact q
      · rw [if_neg c1] at q
        rw [if_neg (by omega), if_pos (by omega)]; exact q
  · rw [if_neg (by omega), if_neg (by omega), if_neg (by omega)]
    by_cases d2 : i < j
    · rw [if_pos (by omega), show 6 + 3 * (12 * t + j) + c - 3 = 6 + 3 * (12 * t + (j - 1)) + c by omega]
      exact hb _ (by omega) c hc
    · rw [if_neg (by omega)]
      exact hb _ (by omega) c hc
theorem insW_out {w : Nat → Int32} {t m i : Nat} {x y z : Int32} (ht : t < 4) (hm : m ≤ 11) (hi : i ≤ m) {a : Nat} (h1 : a ≠ 2 + t) (h2 : a < 6 + 36 * t ∨ 42 + 36 * t ≤ a) : insW w t m i x y z a = w a := by
  unfold insW
  rw [if_neg h1, if_neg (by omega), if_neg (by omega), if_neg (by omega), if_neg (by omega)]
theorem ce_ok {r : List Nat} {wd c : Nat} (h : okRow wd r) (hc : c < wd) : 0 ≤ (ce r c).toInt := by
  have := h.2 c hc
  unfold ce
  rw [if_pos (by rw [h.1]; exact hc), tnI (by omega)]
  omega
theorem ce_rg {r : List Nat} {wd c : Nat} (h : okRow wd r) : -1 ≤ (ce r c).toInt ∧ (ce r c).toInt ≤ 99 := by
  unfold ce
  by_cases d : c < r.length
  · have := h.2 c (by rw [← h.1]; exact d)
    rw [if_pos d, tnI (by omega)]
    omega
  · rw [if_neg d]
    decide
theorem n_take101 {I0 I : gM} {t : Nat} {tb : List Nat × List (List Nat)} (ht : t < 4) (hM : MI false I0 I) (hC : TbC I t tb) (hok : okTab tb) (e0 : I 70 (2 + t) = 0) :
    T (lX9_takeTables_101 (nI t) (nI 0, I)) (fun r => MI false I0 r ∧ (∀ q, q ≠ 70 → r q = I q) ∧ (∀ j, j < (r 70 (2 + t)).toInt.toNat → ∀ c, c < tb.1.length → 0 ≤ (r 70 (6 + 3 * (12 * t + j) + c)).toInt) ∧ ∀ a, a ≠ 2 + t → (a < 6 + 36 * t ∨ 42 + 36 * t ≤ a) → r 70 a = I 70 a) := by
  obtain ⟨_, _, c66, c67⟩ := hC
  obtain ⟨o1, o3, o12, orow⟩ := hok
  unfold lX9_takeTables_101
  refine t_it (P := fun s => ∃ i m, s.1 = nI i ∧ i ≤ tb.2.length ∧ m ≤ i ∧ s.2 70 (2 + t) = nI m ∧ MI false I0 s.2 ∧ (∀ q, q ≠ 70 → s.2 q = I q) ∧ (∀ j, j < m → ∀ c, c < tb.1.length → 0 ≤ (s.2 70 (6 + 3 * (12 * t + j) + c)).toInt) ∧ ∀ a, a ≠ 2 + t → (a < 6 + 36 * t ∨ 42 + 36 * t ≤ a) → s.2 70 a = I 70 a) (μ := fun s => 20 - s.1.toInt.toNat) (fun s p => ?_) ⟨0, 0, rfl, by omega, by omega, e0, hM, fun _ _ => rfl, fun j hj => absurd hj (by omega), fun _ _ _ => rfl⟩
  obtain ⟨s1, s2⟩ := s
  obtain ⟨i, m, e1, hi, hm, em, h1, h2, h3, h4⟩ := p
  dsimp only at e1 em h1 h2 h3 h4
  subst e1
  dsimp only
  refine t_be (rI_n (by omega) (by omega)) ?_
  rw [h2 66 (by decide), c66]
  refine t_ite (fun c => ?_) (fun c => ?_)
  · refine t_ret (show MI false I0 s2 ∧ _ from ⟨h1, h2, fun j hj => ?_, h4⟩)
    rw [em, nIt (by omega)] at hj
    exact h3 j hj
  · have c := mt (nI_leI (a := tb.2.length) (b := i) (by omega) (by omega)).mpr c
    have hrow : okRow tb.1.length (tb.2.getD i []) := orow _ (by rw [List.getD_eq_getElem?_getD, List.getElem?_eq_getElem (by omega)]; exact List.getElem_mem _)
    have g : ∀ c, c < 3 → s2 67 (3 * (12 * t + i) + c) = ce (tb.2.getD i []) c := fun c hc => by
      rw [h2 67 (by decide), ← c67 i (by omega) c hc]
      congr 1; omega
    have b0 : (3 : Int32) * ((12 : Int32) * nI t + nI i) = nI (3 * (12 * t + i)) := by rw [a12, L3, nI_mul]
    rw [b0]
    have b1 : nI (3 * (12 * t + i)) + 1 = nI (3 * (12 * t + i) + 1) := nI_1 _
    have b2 : nI (3 * (12 * t + i)) + 2 = nI (3 * (12 * t + i) + 2) := by rw [L2, nI_add]
    rw [b1, b2]
    refine t_be (rI_n (by omega) (by omega)) ?_
    refine t_be (rI_n (by omega) (by omega)) ?_
    refine t_be (rI_n (by omega) (by omega)) ?_
    have g0 := g 0 (by omega)
    have g1 := g 1 (by omega)
    have g2 := g 2 (by omega)
    rw [Nat.add_zero] at g0
    rw [g0, g1, g2]
    obtain ⟨i', _, ei⟩ := n_hasRow ht (by omega) em (ce (tb.2.getD i []) 0) (ce (tb.2.getD i []) 1) (ce (tb.2.getD i []) 2)
    refine t_be ei ?_
    have mu : 20 - (nI (i + 1)).toInt.toNat < 20 - (nI i).toInt.toNat := by rw [nIt (by omega), nIt (by omega)]; omega
    refine t_ite (fun c3 => ?_) (fun c3 => ?_)
    · refine t_be (rI_n (by omega) (by omega)) ?_
      refine t_be (rI_n (by omega) (by omega)) ?_
      refine t_be (rI_n (by omega) (by omega)) ?_
      rw [g0, g1, g2]
      obtain ⟨i2, r, hcl, er, hk, h70⟩ := n_putsNow ht (by omega) em (ce (tb.2.getD i []) 0) (ce (tb.2.getD i []) 1) (ce (tb.2.getD i []) 2)
      refine t_be er ?_
      unfold bX9_takeTables_178
      rw [nI_1]
      have hi2 := hcl.1
      refine t_nx ?_ mu
      refine ⟨i + 1, m + 1, rfl, by omega, by omega, ?_, ?_, fun q hq => ?_, ?_, fun a ha1 ha2 => ?_⟩
      · dsimp only; rw [h70]; unfold insW; rw [if_pos rfl]
      · dsimp only
        refine h1.one rfl hk (fun j => ?_)
        rw [h70]
        exact rW.ins (fun j => h1.1 70 j) ht (by omega) hi2 ⟨ce_rg hrow, ce_rg hrow, ce_rg hrow⟩ j
      · dsimp only; rw [hk q hq]; exact h2 q hq
      · dsimp only
        rw [h70]
        refine insW_row ht (by omega) hi2 o3 (fun c hc => ?_) h3
        rcases (show c = 0 ∨ c = 1 ∨ c = 2 by omega) with rfl | rfl | rfl
        · exact ce_ok hrow hc
        · exact ce_ok hrow hc
        · exact ce_ok hrow hc
      · dsimp only
        rw [h70, insW_out ht (by omega) hi2 ha1 ha2]
        exact h4 a ha1 ha2
    · unfold bX9_takeTables_178
      rw [nI_1]
      refine t_nx ?_ mu
      exact ⟨i + 1, m, rfl, by omega, by omega, em, h1, h2, h3, h4⟩
theorem n_take68 {I0 I : gM} {t : Nat} (ht : t < 4) (hM : MI false I0 I) : T (lX9_takeTables_68 (nI t) (nI 0, I)) (fun r => MI false I0 r ∧ (∀ q, q ≠ 73 → r q = I q) ∧ ∀ a, r 73 a = if 3 * t ≤ a ∧ a < 3 * t + 3 then I 65 a else I 73 a) := by
  unfold lX9_takeTables_68
  refine t_it (P := fun s => ∃ k, s.1 = nI k ∧ k ≤ 3 ∧ MI false I0 s.2 ∧ (∀ q, q ≠ 73 → s.2 q = I q) ∧ ∀ a, s.2 73 a = if 3 * t ≤ a ∧ a < 3 * t + k then I 65 a else I 73 a) (μ := fun s => 20 - s.1.toInt.toNat) (fun s p => ?_) ⟨0, rfl, by omega, hM, fun _ _ => rfl, fun a => by rw [if_neg (by omega)]⟩
  obtain ⟨s1, s2⟩ := s
  obtain ⟨k, e1, hk, h1, h2, h3⟩ := p
  dsimp only at e1 h1 h2 h3
  subst e1
  dsimp only
  refine t_ite (fun c => ?_) (fun c => ?_)
  · have c := (nI_leI (a := 3) (b := k) (by omega) (by omega)).mp c
    have : k = 3 := by omega
    subst this
    exact t_ret (show MI false I0 s2 ∧ _ from ⟨h1, h2, h3⟩)
  · have c := mt (nI_leI (a := 3) (b := k) (by omega) (by omega)).mpr c
    rw [a3]
    refine t_be (rI_n (by omega) (by omega)) ?_
    refine t_be (wI_n (by omega) (by omega)) ?_
    have hv := h1.at (k := 65) (j := 3 * t + k) (lo := 0) (hi := 3) rfl
    rw [nI_1]
    refine t_nx ?_ (show 20 - (nI (k + 1)).toInt.toNat < 20 - (nI k).toInt.toNat by rw [nIt (by omega), nIt (by omega)]; omega)
    refine ⟨k + 1, rfl, by omega, h1.up (k := 73) rfl (lo := 0) (hi := 3) rfl hv.1 hv.2, fun q hq => ?_, fun a => ?_⟩
    · dsimp only; rw [g_up_row hq]; exact h2 q hq
    · dsimp only
      rw [gu_in, h3, h2 65 (by decide)]
      by_cases d : a = 3 * t + k
      · rw [if_pos d, if_pos (by omega), d]
      · rw [if_neg d]
        by_cases d2 : 3 * t ≤ a ∧ a < 3 * t + k
        · rw [if_pos d2, if_pos (by omega)]
        · rw [if_neg d2, if_neg (by omega)]
