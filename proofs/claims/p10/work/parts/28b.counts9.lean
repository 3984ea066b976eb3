/-! the reference's counts -/
theorem a100 (c j : Nat) : (100 : Int32) * nI c + nI j = nI (100 * c + j) := by rw [L100, nI_mul, nI_add]
def mx0 (x : Int32) : Nat := (mX 0 x).toInt.toNat
theorem mx0_n {x : Int32} (h : -1 ≤ x.toInt ∧ x.toInt ≤ 99) : mX 0 x = nI (mx0 x) ∧ mx0 x < 100 ∧ (0 ≤ x.toInt → x = nI (mx0 x)) := by
  have e := tX (a := 0) (b := x) (by decide : (0 : Int32).toInt = 0) rfl
  have h1 : 0 ≤ (mX 0 x).toInt ∧ (mX 0 x).toInt ≤ 99 := by omega
  refine ⟨nI_self h1.1, by unfold mx0; omega, fun h2 => ?_⟩
  unfold mx0
  have : (mX 0 x).toInt = x.toInt := by omega
  rw [this]; exact nI_self h2
/-- how many of the first rows have a number for a letter -/
def cntJ (K : Nat → Int32) (l v : Nat) : Nat → Nat
  | 0 => 0
  | j + 1 => cntJ K l v j + (if mx0 (K (4 * j + l)) = v then 1 else 0)
theorem cntJ_le (K : Nat → Int32) (l v : Nat) : ∀ j, cntJ K l v j ≤ j := by
  intro j
  induction j with
  | zero => exact Nat.le_refl _
  | succ j ih =>
    unfold cntJ
    split <;> omega
/-- how many numbers below v there are -/
def cdJ (K : Nat → Int32) (l J : Nat) : Nat → Nat
  | 0 => 0
  | v + 1 => cdJ K l J v + (if 0 < cntJ K l v J then 1 else 0)
theorem cdJ_le (K : Nat → Int32) (l J : Nat) : ∀ v, cdJ K l J v ≤ v := by
  intro j
  induction j with
  | zero => exact Nat.le_refl _
  | succ j ih =>
    unfold cdJ
    split <;> omega
def CT9 (r : gM) : Prop := ∃ J, J ≤ 20736 ∧ r 62 26 = nI J ∧ (∀ l, l < 4 → ∀ v, v < 100 → r 82 (100 * l + v) = nI (cntJ (r 80) l v J)) ∧ (∀ l, l < 4 → ∀ v, v < 100 → r 83 (100 * l + v) = nI (cdJ (r 80) l J v)) ∧ ∀ l, l < 4 → r 84 l = nI (cdJ (r 80) l J 100)
theorem GJ9.same {I r : gM} (h : GJ9 I) (h17 : r 62 17 = I 62 17) (h26 : r 62 26 = I 62 26) (hk : ∀ k, k = 70 ∨ k = 72 ∨ k = 73 ∨ k = 80 → r k = I k) : GJ9 r := by
  obtain ⟨n, J, n4, J4, e1, e2, h⟩ := h
  refine ⟨n, J, n4, J4, h17.trans e1, h26.trans e2, ?_⟩
  rw [hk 70 (by omega), hk 72 (by omega), hk 73 (by omega), hk 80 (by omega)]
  exact h
theorem n_counts6 {I0 I : gM} (hM : MI false I0 I) : T (lX9_counts_6 (nI 0, I)) (fun r => MI false I0 r ∧ (∀ a, a < 400 → r 82 a = nI 0) ∧ ∀ k, k ≠ 82 → r k = I k) := by
  unfold lX9_counts_6
  refine t_it (P := fun s => ∃ a, s.1 = nI a ∧ a ≤ 400 ∧ MI false I0 s.2 ∧ (∀ a', a' < a → s.2 82 a' = nI 0) ∧ ∀ k, k ≠ 82 → s.2 k = I k) (μ := fun s => 500 - s.1.toInt.toNat) (fun s p => ?_) ⟨0, rfl, by omega, hM, fun a h => by omega, fun _ _ => rfl⟩
  obtain ⟨s1, s2⟩ := s
  obtain ⟨a, e1, h1, hM2, h2, h3⟩ := p
  dsimp only at e1 hM2 h2 h3
  subst e1
  dsimp only
  refine t_ite (fun c => ?_) (fun c => ?_)
  · have c := (nI_leI (a := 400) (by omega) (by omega)).mp c
    exact t_ret ⟨hM2, fun a' h => h2 a' (by omega), h3⟩
  · have c := mt (nI_leI (a := 400) (b := a) (by omega) (by omega)).mpr c
    refine t_be (wI_n (by omega) (by omega)) ?_
    refine t_nx ?_ (by show 500 - (nI a + 1).toInt.toNat < 500 - (nI a).toInt.toNat; rw [nI_1, nIt (by omega), nIt (by omega)]; omega)
    dsimp only
    refine ⟨a + 1, nI_1 a, by omega, hM2.up (k := 82) rfl (lo := -2147483648) (hi := 2147483647) rfl (tTop _).1 (tTop _).2, fun a' h => ?_, fun k hk => ?_⟩
    · rw [gu_in]
      by_cases z : a' = a
      · rw [if_pos z]; rfl
      · rw [if_neg z]; exact h2 a' (by omega)
    · rw [g_up_row hk]; exact h3 k hk
theorem n_counts38 {I0 I : gM} (hM : MI false I0 I) {j : Nat} (hj : j < 20736) (hT : ∀ l, l < 4 → ∀ v, v < 100 → I 82 (100 * l + v) = nI (cntJ (I 80) l v j)) : T (lX9_counts_38 (nI j) (nI 0, I)) (fun r => MI false I0 r ∧ (∀ l, l < 4 → ∀ v, v < 100 → r 82 (100 * l + v) = nI (cntJ (I 80) l v (j + 1))) ∧ ∀ k, k ≠ 82 → r k = I k) := by
  unfold lX9_counts_38
  refine t_it (P := fun s => ∃ l, s.1 = nI l ∧ l ≤ 4 ∧ MI false I0 s.2 ∧ (∀ l', l' < 4 → ∀ v, v < 100 → s.2 82 (100 * l' + v) = nI (cntJ (I 80) l' v (if l' < l then j + 1 else j))) ∧ ∀ k, k ≠ 82 → s.2 k = I k) (μ := fun s => 20 - s.1.toInt.toNat) (fun s p => ?_) ⟨0, rfl, by omega, hM, fun l' a v b => by rw [if_neg (by omega)]; exact hT l' a v b, fun _ _ => rfl⟩
  obtain ⟨s1, s2⟩ := s
  obtain ⟨l, e1, h1, hM2, h2, h3⟩ := p
  dsimp only at e1 hM2 h2 h3
  subst e1
  dsimp only
  refine t_ite (fun c => ?_) (fun c => ?_)
  · have c := (nI_leI (a := 4) (by omega) (by omega)).mp c
    exact t_ret ⟨hM2, fun l' a v b => by rw [h2 l' a v b, if_pos (by omega)], h3⟩
  · have c := mt (nI_leI (a := 4) (b := l) (by omega) (by omega)).mpr c
    unfold fX9_numberOf
    rw [a4]
    refine t_be (v := s2 80 (4 * j + l)) (by rw [rI_n (by omega) (by omega), obs]) ?_
    obtain ⟨m1, m2, m3⟩ := mx0_n (hM2.at (k := 80) (j := 4 * j + l) (lo := -1) (hi := 99) rfl)
    rw [m1, a100]
    refine t_be (rI_n (by omega) (by omega)) (t_be (wI_n (by omega) (by omega)) ?_)
    rw [h2 l (by omega) _ m2, if_neg (by omega), h3 80 (by omega)]
    have cl := cntJ_le (I 80) l (mx0 (I 80 (4 * j + l))) j
    refine t_nx ?_ (by show 20 - (nI l + 1).toInt.toNat < 20 - (nI l).toInt.toNat; rw [nI_1, nIt (by omega), nIt (by omega)]; omega)
    rw [h3 80 (by omega)] at m2
    dsimp only
    refine ⟨l + 1, nI_1 l, by omega, hM2.up (k := 82) rfl (lo := -2147483648) (hi := 2147483647) rfl (tTop _).1 (tTop _).2, fun l' a v b => ?_, fun k hk => ?_⟩
    · rw [gu_in]
      by_cases z : 100 * l' + v = 100 * l + mx0 (I 80 (4 * j + l))
      · obtain rfl : l' = l := by omega
        obtain rfl : v = mx0 (I 80 (4 * j + l')) := by omega
        rw [if_pos z, if_pos (by omega)]
        show _ = nI (cntJ (I 80) l' _ j + (if mx0 (I 80 (4 * j + l')) = _ then 1 else 0))
        rw [if_pos rfl, nI_1]
      · rw [if_neg z, h2 l' a v b]
        by_cases y : l' = l
        · subst y
          rw [if_neg (by omega), if_pos (by omega)]
          show _ = nI (cntJ (I 80) l' v j + (if mx0 (I 80 (4 * j + l')) = v then 1 else 0))
          rw [if_neg (by omega), Nat.add_zero]
        · by_cases x : l' < l
          · rw [if_pos x, if_pos (by omega)]
          · rw [if_neg x, if_neg (by omega)]
    · rw [g_up_row hk]; exact h3 k hk
theorem n_counts28 {I0 I : gM} (hM : MI false I0 I) {J : Nat} (hJ : J ≤ 20736) (e : I 62 26 = nI J) (hT : ∀ a, a < 400 → I 82 a = nI 0) : T (lX9_counts_28 (nI 0, I)) (fun r => MI false I0 r ∧ (∀ l, l < 4 → ∀ v, v < 100 → r 82 (100 * l + v) = nI (cntJ (I 80) l v J)) ∧ ∀ k, k ≠ 82 → r k = I k) := by
  unfold lX9_counts_28
  refine t_it (P := fun s => ∃ j, s.1 = nI j ∧ j ≤ J ∧ MI false I0 s.2 ∧ (∀ l, l < 4 → ∀ v, v < 100 → s.2 82 (100 * l + v) = nI (cntJ (I 80) l v j)) ∧ ∀ k, k ≠ 82 → s.2 k = I k) (μ := fun s => 20800 - s.1.toInt.toNat) (fun s p => ?_) ⟨0, rfl, by omega, hM, fun l a v b => hT _ (by omega), fun _ _ => rfl⟩
  obtain ⟨s1, s2⟩ := s
  obtain ⟨j, e1, h1, hM2, h2, h3⟩ := p
  dsimp only at e1 hM2 h2 h3
  subst e1
  dsimp only
  have e26 : s2 62 26 = nI J := by rw [h3 62 (by omega)]; exact e
  refine t_ite (fun c => ?_) (fun c => ?_)
  · rw [e26] at c
    have c := (nI_leI (by omega) (by omega)).mp c
    obtain rfl : j = J := by omega
    exact t_ret ⟨hM2, h2, h3⟩
  · rw [e26] at c
    have c := mt (nI_leI (a := J) (b := j) (by omega) (by omega)).mpr c
    refine t_bind (n_counts38 hM2 (j := j) (by omega) (by rw [h3 80 (by omega)]; exact h2)) (fun w pw => ?_)
    obtain ⟨w1, w2, w3⟩ := pw
    rw [h3 80 (by omega)] at w2
    refine t_nx ?_ (by show 20800 - (nI j + 1).toInt.toNat < 20800 - (nI j).toInt.toNat; rw [nI_1, nIt (by omega), nIt (by omega)]; omega)
    dsimp only
    exact ⟨j + 1, nI_1 j, by omega, w1, w2, fun k hk => (w3 k hk).trans (h3 k hk)⟩
theorem n_counts95 {I0 I : gM} (hM : MI false I0 I) {l J : Nat} (hl : l < 4) (hJ : J ≤ 20736) (hT : ∀ v, v < 100 → I 82 (100 * l + v) = nI (cntJ (I 80) l v J)) (e : I 84 l = nI 0) : T (lX9_counts_95 (nI l) (nI 0, I)) (fun r => MI false I0 r ∧ (∀ v, v < 100 → r 83 (100 * l + v) = nI (cdJ (I 80) l J v)) ∧ r 84 l = nI (cdJ (I 80) l J 100) ∧ (∀ a, (a < 100 * l ∨ 100 * l + 100 ≤ a) → r 83 a = I 83 a) ∧ (∀ a, a ≠ l → r 84 a = I 84 a) ∧ ∀ k, k ≠ 83 → k ≠ 84 → r k = I k) := by
  unfold lX9_counts_95
  refine t_it (P := fun s => ∃ v, s.1 = nI v ∧ v ≤ 100 ∧ MI false I0 s.2 ∧ (∀ v', v' < v → s.2 83 (100 * l + v') = nI (cdJ (I 80) l J v')) ∧ s.2 84 l = nI (cdJ (I 80) l J v) ∧ (∀ a, (a < 100 * l ∨ 100 * l + 100 ≤ a) → s.2 83 a = I 83 a) ∧ (∀ a, a ≠ l → s.2 84 a = I 84 a) ∧ ∀ k, k ≠ 83 → k ≠ 84 → s.2 k = I k) (μ := fun s => 200 - s.1.toInt.toNat) (fun s p => ?_) ⟨0, rfl, by omega, hM, fun v' a => by omega, e, fun _ _ => rfl, fun _ _ => rfl, fun _ _ _ => rfl⟩
  obtain ⟨s1, s2⟩ := s
  obtain ⟨v, e1, h1, hM2, h2, h3, h4, h5, h6⟩ := p
  dsimp only at e1 hM2 h2 h3 h4 h5 h6
  subst e1
  dsimp only
  refine t_ite (fun c => ?_) (fun c => ?_)
  · have c := (nI_leI (a := 100) (by omega) (by omega)).mp c
    obtain rfl : v = 100 := by omega
    exact t_ret ⟨hM2, h2, h3, h4, h5, h6⟩
  · have c := mt (nI_leI (a := 100) (b := v) (by omega) (by omega)).mpr c
    have cd := cdJ_le (I 80) l J v
    have cn := cntJ_le (I 80) l v J
    rw [a100]
    refine t_be (rI_n (by omega) (by omega)) (t_be (wI_n (by omega) (by omega)) (t_be (rI_n (by omega) (by omega)) (t_be (rI_n (by omega) (by omega)) ?_)))
    rw [g_up_row (by omega), g_up_row (by omega), h6 82 (by omega) (by omega), hT v (by omega), h3]
    have nx : ∀ b : Nat, b ≤ 1 → cdJ (I 80) l J (v + 1) = cdJ (I 80) l J v + b → T (bX9_counts_144 (nI v) (nI b) (nI (cdJ (I 80) l J v)) (nI l) (g_up s2 83 (100 * l + v) (nI (cdJ (I 80) l J v)))) (LQ (fun s => ∃ v, s.1 = nI v ∧ v ≤ 100 ∧ MI false I0 s.2 ∧ (∀ v', v' < v → s.2 83 (100 * l + v') = nI (cdJ (I 80) l J v')) ∧ s.2 84 l = nI (cdJ (I 80) l J v) ∧ (∀ a, (a < 100 * l ∨ 100 * l + 100 ≤ a) → s.2 83 a = I 83 a) ∧ (∀ a, a ≠ l → s.2 84 a = I 84 a) ∧ ∀ k, k ≠ 83 → k ≠ 84 → s.2 k = I k) (200 - (nI v).toInt.toNat) (fun s => 200 - s.1.toInt.toNat) (fun r => MI false I0 r ∧ (∀ v, v < 100 → r 83 (100 * l + v) = nI (cdJ (I 80) l J v)) ∧ r 84 l = nI (cdJ (I 80) l J 100) ∧ (∀ a, (a < 100 * l ∨ 100 * l + 100 ≤ a) → r 83 a = I 83 a) ∧ (∀ a, a ≠ l → r 84 a = I 84 a) ∧ ∀ k, k ≠ 83 → k ≠ 84 → r k = I k)) := fun b b1 hb => by
      unfold bX9_counts_144
      rw [nI_add]
      refine t_be (wI_n (by omega) (by omega)) ?_
      refine t_nx ?_ (by show 200 - (nI v + 1).toInt.toNat < 200 - (nI v).toInt.toNat; rw [nI_1, nIt (by omega), nIt (by omega)]; omega)
      dsimp only
      refine ⟨v + 1, nI_1 v, by omega, (hM2.up (k := 83) rfl (lo := 0) (hi := 100) rfl (by rw [tnI (by omega)]; omega) (by rw [tnI (by omega)]; omega)).up (k := 84) rfl (lo := 0) (hi := 100) rfl (by rw [tnI (by omega)]; omega) (by rw [tnI (by omega)]; omega), fun v' a => ?_, ?_, fun a ha => ?_, fun a ha => ?_, fun k y1 y2 => ?_⟩
      · rw [g_up_row (by omega), gu_in]
        by_cases z : v' = v
        · rw [if_pos (by omega), z]
        · rw [if_neg (by omega)]; exact h2 v' (by omega)
      · rw [g_up_self, hb]
      · rw [g_up_row (by omega), gu_in, if_neg (by omega)]; exact h4 a ha
      · rw [gu_in, if_neg ha, g_up_row (by omega)]; exact h5 a ha
      · rw [g_up_row y2, g_up_row y1]; exact h6 k y1 y2
    refine t_ite (fun c2 => ?_) (fun c2 => ?_)
    · have c2 := (nI_leI (b := 0) (by omega) (by omega)).mp c2
      exact nx 0 (by omega) (by show _ + (if 0 < cntJ (I 80) l v J then 1 else 0) = _; rw [if_neg (by omega)])
    · have c2 := mt (nI_leI (a := cntJ (I 80) l v J) (b := 0) (by omega) (by omega)).mpr c2
      exact nx 1 (by omega) (by show _ + (if 0 < cntJ (I 80) l v J then 1 else 0) = _; rw [if_pos (by omega)])
theorem n_counts81 {I0 I : gM} (hM : MI false I0 I) {J : Nat} (hJ : J ≤ 20736) (hT : ∀ l, l < 4 → ∀ v, v < 100 → I 82 (100 * l + v) = nI (cntJ (I 80) l v J)) : T (lX9_counts_81 (nI 0, I)) (fun r => MI false I0 r ∧ (∀ l, l < 4 → ∀ v, v < 100 → r 83 (100 * l + v) = nI (cdJ (I 80) l J v)) ∧ (∀ l, l < 4 → r 84 l = nI (cdJ (I 80) l J 100)) ∧ ∀ k, k ≠ 83 → k ≠ 84 → r k = I k) := by
  unfold lX9_counts_81
  refine t_it (P := fun s => ∃ l, s.1 = nI l ∧ l ≤ 4 ∧ MI false I0 s.2 ∧ (∀ l', l' < l → ∀ v, v < 100 → s.2 83 (100 * l' + v) = nI (cdJ (I 80) l' J v)) ∧ (∀ l', l' < l → s.2 84 l' = nI (cdJ (I 80) l' J 100)) ∧ ∀ k, k ≠ 83 → k ≠ 84 → s.2 k = I k) (μ := fun s => 20 - s.1.toInt.toNat) (fun s p => ?_) ⟨0, rfl, by omega, hM, fun l a => by omega, fun l a => by omega, fun _ _ _ => rfl⟩
  obtain ⟨s1, s2⟩ := s
  obtain ⟨l, e1, h1, hM2, h2, h3, h4⟩ := p
  dsimp only at e1 hM2 h2 h3 h4
  subst e1
  dsimp only
  refine t_ite (fun c => ?_) (fun c => ?_)
  · have c := (nI_leI (a := 4) (by omega) (by omega)).mp c
    obtain rfl : l = 4 := by omega
    exact t_ret ⟨hM2, h2, h3, h4⟩
  · have c := mt (nI_leI (a := 4) (b := l) (by omega) (by omega)).mpr c
    refine t_be (wI_n (by omega) (by omega)) ?_
    have z80 : g_up s2 84 l 0 80 = I 80 := by rw [g_up_row (by omega)]; exact h4 80 (by omega) (by omega)
    refine t_bind (n_counts95 (hM2.up (k := 84) rfl (lo := 0) (hi := 100) rfl (by decide) (by decide)) (l := l) (J := J) (by omega) hJ (fun v hv => by rw [z80, g_up_row (by omega), h4 82 (by omega) (by omega)]; exact hT l (by omega) v hv) (by rw [g_up_self]; rfl)) (fun w pw => ?_)
    obtain ⟨w1, w2, w3, w4, w5, w6⟩ := pw
    rw [z80] at w2 w3
    refine t_nx ?_ (by show 20 - (nI l + 1).toInt.toNat < 20 - (nI l).toInt.toNat; rw [nI_1, nIt (by omega), nIt (by omega)]; omega)
    dsimp only
    refine ⟨l + 1, nI_1 l, by omega, w1, fun l' a v b => ?_, fun l' a => ?_, fun k y1 y2 => ?_⟩
    · rcases (by omega : l' = l ∨ l' < l) with z | z
      · rw [z]; exact w2 v b
      · rw [w4 _ (by omega), g_up_row (by omega)]; exact h2 l' z v b
    · rcases (by omega : l' = l ∨ l' < l) with z | z
      · rw [z]; exact w3
      · rw [w5 _ (by omega), g_up_ne (Or.inr (by omega))]; exact h3 l' z
    · rw [w6 k y1 y2, g_up_row y2]; exact h4 k y1 y2
/-- behind the join -/
theorem n_counts {I0 I : gM} (hM : MI false I0 I) {r1 : gM} (e : fX9_joinsNow I = some r1) (M1 : MI false I0 r1) (g1 : GJ9 r1) : T (fX9_counts I) (fun r => MI false I0 r ∧ (GJ9 r ∧ CT9 r) ∧ ∀ k, k ≠ 82 → k ≠ 83 → k ≠ 84 → r k = r1 k) := by
  obtain ⟨J, hJ, eJ⟩ := M1.n (k := 62) (j := 26) (hi := 20736) rfl
  unfold fX9_counts
  refine t_be e (t_bind (n_counts6 M1) (fun a pa => ?_))
  obtain ⟨a1, a2, a3⟩ := pa
  refine t_bind (n_counts28 a1 hJ (by rw [a3 62 (by omega)]; exact eJ) a2) (fun b pb => ?_)
  obtain ⟨b1, b2, b3⟩ := pb
  have b80 : b 80 = a 80 := b3 80 (by omega)
  refine t_bind (n_counts81 b1 hJ (by rw [b80]; exact b2)) (fun c pc => t_ret ?_)
  obtain ⟨c1, c2, c3, c4⟩ := pc
  have k1 : ∀ k, k ≠ 82 → k ≠ 83 → k ≠ 84 → c k = r1 k := fun k y1 y2 y3 => by rw [c4 k y2 y3, b3 k y1, a3 k y1]
  have c80 : c 80 = b 80 := c4 80 (by omega) (by omega)
  refine ⟨c1, ⟨g1.same (by rw [k1 62 (by omega) (by omega) (by omega)]) (by rw [k1 62 (by omega) (by omega) (by omega)]) (fun k hk => k1 k (by omega) (by omega) (by omega)), J, hJ, by rw [k1 62 (by omega) (by omega) (by omega)]; exact eJ, ?_, ?_, ?_⟩, k1⟩
  · intro l hl v hv
    rw [c4 82 (by omega) (by omega), c80, b80]; exact b2 l hl v hv
  · intro l hl v hv
    rw [c80]; exact c2 l hl v hv
  · intro l hl
    rw [c80]; exact c3 l hl
theorem tfX9_counts {I0 : gM} (I : gM) (hM : MI false I0 I) : T (fX9_counts I) (fun r => MI false I0 r ∧ (GJ9 r ∧ CT9 r)) := by
  obtain ⟨r1, e, M1, g1⟩ := tfX9_joinsNow I hM
  exact t_mono (n_counts hM e M1 g1) (fun r h => ⟨h.1, h.2.1⟩)
