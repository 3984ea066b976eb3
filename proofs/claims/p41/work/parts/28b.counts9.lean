section P_28b_counts9
/-! the reference's counts -/
theorem a100 (c j : Nat) : (100 : Int32) * nI c + nI j = nI (100 * c + j) := by rw [L100, nI_mul, nI_add]
def mx0 (x : Int32) : Nat := (mX 0 x).toInt.toNat
theorem mx0_n {x : Int32} (h : -1 ≤ x.toInt ∧ x.toInt ≤ 99) : mX 0 x = nI (mx0 x) ∧ mx0 x < 100 ∧ (0 ≤ x.toInt → x = nI (mx0 x)) := by
  have e := tX (a := 0) (b := x) (by decide : (0 : Int32).toInt = 0) rfl
  have h1 : 0 ≤ (mX 0 x).toInt ∧ (mX 0 x).toInt ≤ 99 := by omega
  refine ⟨nI_self h1.1, by unfold mx0; omega, fun h2 => ?_⟩
  unfold mx0
  have : (mX 0 x).toInt = x.toInt := by omega
  rw [this]; exact nI_self h2
/-- how many of the first rows have a number for a letter -/
def cntJ (K : Nat → Int32) (l v : Nat) : Nat → Nat
  | 0 => 0
  | j + 1 => cntJ K l v j + (if mx0 (K (4 * j + l)) = v then 1 else 0)
theorem cntJ_le (K : Nat → Int32) (l v : Nat) : ∀ j, cntJ K l v j ≤ j := by
  intro j
  induction j with
  | zero => exact Nat.le_refl _
  | succ j ih =>
    unfold cntJ
    split <;> omega
/-- how many numbers below v there are -/
def cdJ (K : Nat → Int32) (l J : Nat) : Nat → Nat
  | 0 => 0
  | v + 1 => cdJ K l J v + (if 0 < cntJ K l v J then 1 else 0)
theorem cdJ_le (K : Nat → Int32) (l J : Nat) : ∀ v, cdJ K l J v ≤ v := by
  intro j
  induction j with
  | zero => exact Nat.le_refl _
  | succ j ih =>
    unfold cdJ
    split <;> omega
def CT9 (r : gM) : Prop := ∃ J, J ≤ 20736 ∧ r 62 26 = nI J ∧ (∀ l, l < 4 → ∀ v, v < 100 → r 82 (100 * l + v) = nI (cntJ (r 80) l v J)) ∧ (∀ l, l < 4 → ∀ v, v < 100 → r 83 (100 * l + v) = nI (cdJ (r 80) l J v)) ∧ ∀ l, l < 4 → r 84 l = nI (cdJ (r 80) l J 100)
theorem GJ9.same {I r : gM} (h : GJ9 I) (h17 : r 62 17 = I 62 17) (h26 : r 62 26 = I 62 26) (hk : ∀ k, k = 70 ∨ k = 72 ∨ k = 73 ∨ k = 80 → r k = I k) : GJ9 r := by
  obtain ⟨n, J, n4, J4, e1, e2, h⟩ := h
  refine ⟨n, J, n4, J4, h17.trans e1, h26.trans e2, ?_⟩
  rw [hk 70 (by omega), hk 72 (by omega), hk 73 (by omega), hk 80 (by omega)]
  exact h
theorem n_counts6 {I0 I : gM} (hM : MI false I0 I) : T (lX9_counts_6 (nI 0, I)) (fun r => MI false I0 r ∧ (∀ a, a < 400 → r 82 a = nI 0) ∧ ∀ k, k ≠ 82 → r k = I k) := by
  unfold lX9_counts_6
  refine t_it (P := fun s => ∃ a, s.1 = nI a ∧ a ≤ 400 ∧ MI false I0 s.2 ∧ (∀ a', a' < a → s.2 82 a' = nI 0) ∧ ∀ k, k ≠ 82 → s.2 k = I k) (μ := fun s => 500 - s.1.toInt.toNat) (fun s p => ?_) ⟨0, rfl, by omega, hM, fun a h => by omega, fun _ _ => rfl⟩
  obtain ⟨s1, s2⟩ := s
  obtain ⟨a, e1, h1, hM2, h2, h3⟩ := p
  dsimp only at e1 hM2 h2 h3
  subst e1
  dsimp only
  refine t_ite (fun c => ?_) (fun c => ?_)
  · have c := (nI_leI (a := 400) (by omega) (by omega)).mp c
    exact t_ret ⟨hM2, fun a' h => h2 a' (by omega), h3⟩
  · have c := mt (nI_leI (a := 400) (b := a) (by omega) (by omega)).mpr c
    refine t_be (wI_n (by omega) (by omega)) ?_
    refine t_nx ?_ (by show 500 - (nI a + 1).toInt.toNat < 500 - (nI a).toInt.toNat; rw [nI_1, nIt (by omega), nIt (by omega)]; omega)
    dsimp only
    refine ⟨a + 1, nI_1 a, by omega, hM2.up (k := 82) rfl (lo := -2147483648) (hi := 2147483647) rfl (tTop _).1 (tTop _).2, fun a' h => ?_, fun k hk => ?_⟩
    · rw [gu_in]
      by_cases z : a' = a
      · rw [if_pos z]; rfl
      · rw [if_neg z]; exact h2 a' (by omega)
    · rw [g_up_row hk]; exact h3 k hk
theorem n_counts38 {I0 I : gM} (hM : MI false I0 I) {j : Nat} (hj : j < 20736) (hT : ∀ l, l < 4 → ∀ v, v < 100 → I 82 (100 * l + v) = nI (cntJ (I 80) l v j)) : T (lX9_counts_38 (nI j) (nI 0, I)) (fun r => MI false I0 r ∧ (∀ l, l < 4 → ∀ v, v < 100 → r 82 (100 * l + v) = nI (cntJ (I 80) l v (j + 1))) ∧ ∀ k, k ≠ 82 → r k = I k) := by
  unfold lX9_counts_38
  refine t_it (P := fun s => ∃ l, s.1 = nI l ∧ l ≤ 4 ∧ MI false I0 s.2 ∧ (∀ l', l' < 4 → ∀ v, v < 100 → s.2 82 (100 * l' + v) = nI (cntJ (I 80) l' v (if l' < l then j + 1 else j))) ∧ ∀ k, k ≠ 82 → s.2 k = I k) (μ := fun s => 20 - s.1.toInt.toNat) (fun s p => ?_) ⟨0, rfl, by omega, hM, fun l' a v b => by rw [if_neg (by omega)]; exact hT l' a v b, fun _ _ => rfl⟩
  obtain ⟨s1, s2⟩ := s
  obtain ⟨l, e1, h1, hM2, h2, h3⟩ := p
  dsimp only at e1 hM2 h2 h3
  subst e1
  dsimp only
  refine t_ite (fun c => ?_) (fun c => ?_)
  · have c := (nI_leI (a := 4) (by omega) (by omega)).mp c
    exact t_ret ⟨hM2, fun l' a v b => by rw [h2 l' a v b, if_pos (by omega)], h3⟩
  · have c := mt (nI_leI (a := 4) (b := l) (by omega) (by omega)).mpr c
    unfold fX9_numberOf
    rw [a4]
    refine t_be (v := s2 80 (4 * j + l)) (by rw [rI_n (by omega) (by omega), obs]) ?_
    obtain ⟨m1, m2, m3⟩ := mx0_n (hM2.at (k := 80) (j := 4 * j + l) (lo := -1) (hi := 99) rfl)
    rw [m1, a100]
    refine t_be (rI_n (by omega) (by omega)) (t_be (wI_n (by omega) (by omega)) ?_)
    rw [h2 l (by omega) _ m2, if_neg (by omega), h3 80 (by omega)]
    have cl := cntJ_le (I 80) l (mx0 (I 80 (4 * j + l))) j
    refine t_nx ?_ (by show 20 - (nI l + 1).toInt.toNat < 20 - (nI l).toInt.toNat; rw [nI_1, nIt (by omega), nIt (by omega)]; omega)
    rw [h3 80 (by omega)] at m2
    dsimp only
    refine ⟨l + 1, nI_1 l, by omega, hM2.up (k := 82) rfl (lo := -2147483648) (hi := 2147483647) rfl (tTop _).1 (tTop _).2, fun l' a v b => ?_, fun k hk => ?_⟩
    · rw [gu_in]
      by_cases z : 100 * l' + v = 100 * l + mx0 (I 80 (4 * j + l))
      · obtain rfl : l' = l := by omega
        obtain rfl : v = mx0 (I 80 (4 * j + l')) := by omega
        rw [if_pos z, if_pos (by omega)]
        show _ = nI (cntJ (I 80) l' _ j + (if mx0 (I 80 (4 * j + l')) = _ then 1 else 0))
        rw [if_pos rfl, nI_1]
      · rw [if_neg z, h2 l' a v b]
        by_cases y : l' = l
        · subst y
          rw [if_neg (by omega), if_pos (by omega)]
          show _ = nI (cntJ (I 80) l' v j + (if mx0 (I 80 (4 * j + l')) = v then 1 else 0))
          rw [if_neg (by omega), Nat.add_zero]
        · by_cases x : l' < l
          · rw [if_pos x, if_pos (by omega)]
          · rw [if_neg x, if_neg (by omega)]
    · rw [g_up_row hk]; exact h3 k hk
theorem n_counts28 {I0 I : gM} (hM : MI false I0 I) {J : Nat} (hJ : J ≤ 20736) (e : I 62 26 = nI J) (hT : ∀ a, a < 400 → I 82 a = nI 0) : T (lX9_counts_28 (nI 0, I)) (fun r => MI false I0 r ∧ (∀ l, l < 4 → ∀ v, v < 100 → r 82 (100 * l + v) = nI (cntJ (I 80) l v J)) ∧ ∀ k, k ≠ 82 → r k = I k) := by
  unfold lX9_counts_28
  refine t_it (P := fun s => ∃ j, s.1 = nI j ∧ j ≤ J ∧ MI false I0 s.2 ∧ (∀ l, l < 4 → ∀ v, v < 100 → s.2 82 (100 * l + v) = nI (cntJ (I 80) l v j)) ∧ ∀ k, k ≠ 82 → s.2 k = I k) (μ := fun s => 20800 - s.1.toInt.toNat) (fun s p => ?_) ⟨0, rfl, by omega, hM, fun l a v b => hT _ (by omega), fun _ _ => rfl⟩
  obtain ⟨s1, s2⟩ := s
  obtain ⟨j, e1, h1, hM2, h2, h3⟩ := p
  dsimp only at e1 hM2 h2 h3
  subst e1
  dsimp only
  have e26 : s2 62 26 = nI J := by rw [h3 62 (by omega)]; exact e
  refine t_ite (fun c => ?_) (fun c => ?_)
  · rw [e26] at c
    have c := (nI_leI (by omega) (by omega)).mp c
    obtain rfl : j = J := by omega
    exact t_ret ⟨hM2, h2, h3⟩
  · rw [e26] at c
    have c := mt (nI_leI (a := J) (b := j) (by omega) (by omega)).mpr c
    refine t_bind (n_counts38 hM2 (j := j) (by omega) (by rw [h3 80 (by omega)]; exact h2)) (fun w pw => ?_)
    obtain ⟨w1, w2, w3⟩ := pw
    rw [h3 80 (by omega)] at w2
    refine t_nx ?_ (by show 20800 - (nI j + 1).toInt.toNat < 20800 - (nI j).toInt.toNat; rw [nI_1, nIt (by omega), nIt (by omega)]; omega)
    dsimp only
    exact ⟨j + 1, nI_1 j, by omega, w1, w2, fun k hk => (w3 k hk).trans (h3 k hk)⟩
theorem n_counts95 {I0 I : gM} (hM : MI false I0 I) {l J : Nat} (hl : l < 4) (hJ : J ≤ 20736) (hT : ∀ v, v < 100 → I 82 (100 * l + v) = nI (cntJ (I 80) l v J)) (e : I 84 l = nI 0) : T (lX9_counts_95 (nI l) (nI 0, I)) (fun r => MI false I0 r ∧ (∀ v, v < 100 → r 83 (100 * l + v) = nI (cdJ (I 80) l J v)) ∧ r 84 l = nI (cdJ (I 80) l J 100) ∧ (∀ a, (a < 100 * l ∨ 100 * l + 100 ≤ a) → r 83 a = I 83 a) ∧ (∀ a, a ≠ l → r 84 a = I 84 a) ∧ ∀ k, k ≠ 83 → k ≠ 84 → r k = I k) := by
  unfold lX9_counts_95
  refine t_it (P := fun s => ∃ v, s.1 = nI v ∧ v ≤ 100 ∧ MI false I0 s.2 ∧ (∀ v', v' < v → s.2 83 (100 * l + v') = nI (cdJ (I 80) l J v')) ∧ s.2 84 l = nI (cdJ (I 80) l J v) ∧ (∀ a, (a < 100 * l ∨ 100 * l + 100 ≤ a) → s.2 83 a = I 83 a) ∧ (∀ a, a ≠ l → s.2 84 a = I 84 a) ∧ ∀ k, k ≠ 83 → k ≠ 84 → s.2 k = I k) (μ := fun s => 200 - s.1.toInt.toNat) (fun s p => ?_) ⟨0, rfl, by omega, hM, fun v' a => by omega, e, fun _ _ => rfl, fun _ _ => rfl, fun _ _ _ => rfl⟩
  obtain ⟨s1, s2⟩ := s
  obtain ⟨v, e1, h1, hM2, h2, h3, h4, h5, h6⟩ := p
  dsimp only at e1 hM2 h2 h3 h4 h5 h6
  subst e1
  dsimp only
  refine t_ite (fun c => ?_) (fun c => ?_)
  · have c := (nI_leI (a := 100) (by omega) (by omega)).mp c
    obtain rfl : v = 100 := by omega
    exact t_ret ⟨hM2, h2, h3, h4, h5, h6⟩
  · have c := mt (nI_leI (a := 100) (b := v) (by omega) (by omega)).mpr c
    have cd := cdJ_le (I 80) l J v
    have cn := cntJ_le (I 80) l v J
    rw [a100]
    refine t_be (rI_n (by omega) (by omega)) (t_be (wI_n (by omega) (by omega)) (t_be (rI_n (by omega) (by omega)) (t_be (rI_n (by omega) (by omega)) ?_)))
    rw [g_up_row (by omega), g_up_row (by omega), h6 82 (by omega) (by omega), hT v (by omega), h3]
    have nx : ∀ b : Nat, b ≤ 1 → cdJ (I 80) l J (v + 1) = cdJ (I 80) l J v + b → T (bX9_counts_144 (nI v) (nI b) (nI (cdJ (I 80) l J v)) (nI l) (g_up s2 83 (100 * l + v) (nI (cdJ (I 80) l J v)))) (LQ (fun s => ∃ v, s.1 = nI v ∧ v ≤ 100 ∧ MI false I0 s.2 ∧ (∀ v', v' < v → s.2 83 (100 * l + v') = nI (cdJ (I 80) l J v')) ∧ s.2 84 l = nI (cdJ (I 80) l J v) ∧ (∀ a, (a < 100 * l ∨ 100 * l + 100 ≤ a) → s.2 83 a = I 83 a) ∧ (∀ a, a ≠ l → s.2 84 a = I 84 a) ∧ ∀ k, k ≠ 83 → k ≠ 84 → s.2 k = I k) (200 - (nI v).toInt.toNat) (fun s => 200 - s.1.toInt.toNat) (fun r => MI false I0 r ∧ (∀ v, v < 100 → r 83 (100 * l + v) = nI (cdJ (I 80) l J v)) ∧ r 84 l = nI (cdJ (I 80) l J 100) ∧ (∀ a, (a < 100 * l ∨ 100 * l + 100 ≤ a) → r 83 a = I 83 a) ∧ (∀ a, a ≠ l → r 84 a = I 84 a) ∧ ∀ k, k ≠ 83 → k ≠ 84 → r k = I k)) := fun b b1 hb => by
      unfold bX9_counts_144
      rw [nI_add]
      refine t_be (wI_n (by omega) (by omega)) ?_
      refine t_nx ?_ (by show 200 - (nI v + 1).toInt.toNat < 200 - (nI v).toInt.toNat; rw [nI_1, nIt (by omega), nIt (by omega)]; omega)
      dsimp only
      refine ⟨v + 1, nI_1 v, by omega, (hM2.up (k := 83) rfl (lo := 0) (hi := 100) rfl (by rw [tnI (by omega)]; omega) (by rw [tnI (by omega)]; omega)).up (k := 84) rfl (lo := 0) (hi := 100) rfl (by rw [tnI (by omega)]; omega) (by rw [tnI (by omega)]; omega), fun v' a => ?_, ?_, fun a ha => ?_, fun a ha => ?_, fun k y1 y2 => ?_⟩
      · rw [g_up_row (by omega), gu_in]
        by_cases z : v' = v
        · rw [if_pos (by omega), z]
        · rw [if_neg (by omega)]; exact h2 v' (by omega)
      · rw [g_up_self, hb]
      · rw [g_up_row (by omega), gu_in, if_neg (by omega)]; exact h4 a ha
      · rw [gu_in, if_neg ha, g_up_row (by omega)]; exact h5 a ha
      · rw [g_up_row y2, g_up_row y1]; exact h6 k y1 y2
    refine t_ite (fun c2 => ?_) (fun c2 => ?_)
    · have c2 := (nI_leI (b := 0) (by omega) (by omega)).mp c2
      exact nx 0 (by omega) (by show _ + (if 0 < cntJ (I 80) l v J then 1 else 0) = _; rw [if_neg (by omega)])
    · have c2 := mt (nI_leI (a := cntJ (I 80) l v J) (b := 0) (by omega) (by omega)).mpr c2
      exact nx 1 (by omega) (by show _ + (if 0 < cntJ (I 80) l v J then 1 else 0) = _; rw [if_pos (by omega)])
theorem n_counts81 {I0 I : gM} (hM : MI false I0 I) {J : Nat} (hJ : J ≤ 20736) (hT : ∀ l, l < 4 → ∀ v, v < 100 → I 82 (100 * l + v) = nI (cntJ (I 80) l v J)) : T (lX9_counts_81 (nI 0, I)) (fun r => MI false I0 r ∧ (∀ l, l < 4 → ∀ v, v < 100 → r 83 (100 * l + v) = nI (cdJ (I 80) l J v)) ∧ (∀ l, l < 4 → r 84 l = nI (cdJ (I 80) l J 100)) ∧ ∀ k, k ≠ 83 → k ≠ 84 → r k = I k) := by
  unfold lX9_counts_81
  refine t_it (P := fun s => ∃ l, s.1 = nI l ∧ l ≤ 4 ∧ MI false I0 s.2 ∧ (∀ l', l' < l → ∀ v, v < 100 → s.2 83 (100 * l' + v) = nI (cdJ (I 80) l' J v)) ∧ (∀ l', l' < l → s.2 84 l' = nI (cdJ (I 80) l' J 100)) ∧ ∀ k, k ≠ 83 → k ≠ 84 → s.2 k = I k) (μ := fun s => 20 - s.1.toInt.toNat) (fun s p => ?_) ⟨0, rfl, by omega, hM, fun l a => by omega, fun l a => by omega, fun _ _ _ => rfl⟩
  obtain ⟨s1, s2⟩ := s
  obtain ⟨l, e1, h1, hM2, h2, h3, h4⟩ := p
  dsimp only at e1 hM2 h2 h3 h4
  subst e1
  dsimp only
  refine t_ite (fun c => ?_) (fun c => ?_)
  · have c := (nI_leI (a := 4) (by omega) (by omega)).mp c
    obtain rfl : l = 4 := by omega
    exact t_ret ⟨hM2, h2, h3, h4⟩
  · have c := mt (nI_leI (a := 4) (b := l) (by omega) (by omega)).mpr c
    refine t_be (wI_n (by omega) (by omega)) ?_
    have z80 : g_up s2 84 l 0 80 = I 80 := by rw [g_up_row (by omega)]; exact h4 80 (by omega) (by omega)
    refine t_bind (n_counts95 (hM2.up (k := 84) rfl (lo := 0) (hi := 100) rfl (by decide) (by decide)) (l := l) (J := J) (by omega) hJ (fun v hv => by rw [z80, g_up_row (by omega), h4 82 (by omega) (by omega)]; exact hT l (by omega) v hv) (by rw [g_up_self]; rfl)) (fun w pw => ?_)
    obtain ⟨w1, w2, w3, w4, w5, w6⟩ := pw
    rw [z80] at w2 w3
    refine t_nx ?_ (by show 20 - (nI l + 1).toInt.toNat < 20 - (nI l).toInt.toNat; rw [nI_1, nIt (by omega), nIt (by omega)]; omega)
    dsimp only
    refine ⟨l + 1, nI_1 l, by omega, w1, fun l' a v b => ?_, fun l' a => ?_, fun k y1 y2 => ?_⟩
    · rcases (by omega : l' = l ∨ l' < l) with z | z
      · rw [z]; exact w2 v b
      · rw [w4 _ (by omega), g_up_row (by omega)]; exact h2 l' z v b
    · rcases (by omega : l' = l ∨ l' < l) with z | z
      · rw [z]; exact w3
      · rw [w5 _ (by omega), g_up_ne (Or.inr (by omega))]; exact h3 l' z
    · rw [w6 k y1 y2, g_up_row y2]; exact h4 k y1 y2
/-- behind the join -/
theorem n_counts {I0 I : gM} (hM : MI false I0 I) {r1 : gM} (e : fX9_joinsNow I = some r1) (M1 : MI false I0 r1) (g1 : GJ9 r1) : T (fX9_counts I) (fun r => MI false I0 r ∧ (GJ9 r ∧ CT9 r) ∧ ∀ k, k ≠ 82 → k ≠ 83 → k ≠ 84 → r k = r1 k) := by
  obtain ⟨J, hJ, eJ⟩ := M1.n (k := 62) (j := 26) (hi := 20736) rfl
  unfold fX9_counts
  refine t_be e (t_bind (n_counts6 M1) (fun a pa => ?_))
  obtain ⟨a1, a2, a3⟩ := pa
  refine t_bind (n_counts28 a1 hJ (by rw [a3 62 (by omega)]; exact eJ) a2) (fun b pb => ?_)
  obtain ⟨b1, b2, b3⟩ := pb
  have b80 : b 80 = a 80 := b3 80 (by omega)
  refine t_bind (n_counts81 b1 hJ (by rw [b80]; exact b2)) (fun c pc => t_ret ?_)
  obtain ⟨c1, c2, c3, c4⟩ := pc
  have k1 : ∀ k, k ≠ 82 → k ≠ 83 → k ≠ 84 → c k = r1 k := fun k y1 y2 y3 => by rw [c4 k y2 y3, b3 k y1, a3 k y1]
  have c80 : c 80 = b 80 := c4 80 (by omega) (by omega)
  refine ⟨c1, ⟨g1.same (by rw [k1 62 (by omega) (by omega) (by omega)]) (by rw [k1 62 (by omega) (by omega) (by omega)]) (fun k hk => k1 k (by omega) (by omega) (by omega)), J, hJ, by rw [k1 62 (by omega) (by omega) (by omega)]; exact eJ, ?_, ?_, ?_⟩, k1⟩
  · intro l hl v hv
    rw [c4 82 (by omega) (by omega), c80, b80]; exact b2 l hl v hv
  · intro l hl v hv
    rw [c80]; exact c2 l hl v hv
  · intro l hl
    rw [c80]; exact c3 l hl
theorem tfX9_counts {I0 : gM} (I : gM) (hM : MI false I0 I) : T (fX9_counts I) (fun r => MI false I0 r ∧ (GJ9 r ∧ CT9 r)) := by
  obtain ⟨r1, e, M1, g1⟩ := tfX9_joinsNow I hM
  exact t_mono (n_counts hM e M1 g1) (fun r h => ⟨h.1, h.2.1⟩)
end P_28b_counts9
section P_28c_safe9c
set_option maxRecDepth 100000 in
set_option maxHeartbeats 1000000 in
theorem tfX9_times {I0 : gM} (v1 : Int32) (v2 : Int32) (I : gM) (hM : MI false I0 I) : T (fX9_times v1 v2 I) (fun r => MI false I0 r.2) := by
  unfold fX9_times
  refine t_bindE (tfX9_isAsked v1 I hM) (fun r1 er1 pr1 => ?_)
  obtain ⟨br1_0, xr1_0⟩ := (show (0 ≤ r1.toInt ∧ r1.toInt ≤ 1) ∧ (r1.toInt = 0 ∨ (0 ≤ v1.toInt ∧ v1.toInt ≤ 3)) from pr1)
  refine t_ite (fun c1 => ?_) (fun c1 => ?_)
  · have c1i := (iEQ (a := r1) (b := (0 : Int32)) rfl (by decide : (0 : Int32).toInt = 0)).mp c1
    exact t_ret hM
  · have c1i := mt (iEQ (a := r1) (b := (0 : Int32)) rfl (by decide : (0 : Int32).toInt = 0)).mpr c1
    refine t_bindE (tfX9_counts I hM) (fun r2 er2 pr2 => ?_)
    obtain ⟨hr2_0, yr2_0⟩ := (show MI false I0 r2 ∧ (GJ9 r2 ∧ CT9 r2) from pr2)
    refine t_bindE (tfX9_in v2 (0 : Int32) (99 : Int32)) (fun r3 er3 pr3 => ?_)
    obtain ⟨br3_0, xr3_0⟩ := (show (0 ≤ r3.toInt ∧ r3.toInt ≤ 1) ∧ (r3.toInt = 0 ∨ ((0 : Int32).toInt ≤ v2.toInt ∧ v2.toInt ≤ (99 : Int32).toInt)) from pr3)
    have q2 : (0 : Int32).toInt = 0 := by decide
    have q3 : (99 : Int32).toInt = 99 := by decide
    refine t_ite (fun c4 => ?_) (fun c4 => ?_)
    · have c4i := (iEQ (a := r3) (b := (0 : Int32)) rfl (by decide : (0 : Int32).toInt = 0)).mp c4
      exact t_ret hr2_0
    · have c4i := mt (iEQ (a := r3) (b := (0 : Int32)) rfl (by decide : (0 : Int32).toInt = 0)).mpr c4
      refine t_rI (lo := (-2147483648)) (hi := 2147483647) hr2_0 (fun _ _ => rfl) (tA (tM (by decide : (100 : Int32).toInt = 100) rfl (by omega) (by omega)) rfl (by omega) (by omega)) (by omega) (by omega) (fun u4 eu4 bu4 => ?_)
      exact t_ret hr2_0
set_option maxRecDepth 100000 in
set_option maxHeartbeats 1000000 in
theorem tlX9_extremeOf_5 {I0 : gM} (v1 : Int32) (v2 : Int32) (I : gM) (hM : MI false I0 I) (av1 : 0 ≤ v1.toInt ∧ v1.toInt ≤ 3) (s : (Int32 × Int32)) (hP : ((-1) ≤ (s.1).toInt ∧ (s.1).toInt ≤ 99) ∧ (0 ≤ (s.2).toInt ∧ (s.2).toInt ≤ 100)) : T (lX9_extremeOf_5 v1 v2 I s) (fun r : Int32 => ((-1) ≤ r.toInt ∧ r.toInt ≤ 99)) := by
  unfold lX9_extremeOf_5
  refine t_it (P := fun s : (Int32 × Int32) => ((-1) ≤ (s.1).toInt ∧ (s.1).toInt ≤ 99) ∧ (0 ≤ (s.2).toInt ∧ (s.2).toInt ≤ 100)) (μ := fun s : (Int32 × Int32) => (101 - s.2.toInt).toNat) (fun s p => ?_) hP
  obtain ⟨b0, b1⟩ := p
  refine t_ite (fun c1 => ?_) (fun c1 => ?_)
  · have c1i := (iLE (a := (100 : Int32)) (b := s.2) (by decide : (100 : Int32).toInt = 100) rfl).mp c1
    exact t_ret (show ((-1) ≤ (s.1).toInt ∧ (s.1).toInt ≤ 99) from (by omega))
  · have c1i := mt (iLE (a := (100 : Int32)) (b := s.2) (by decide : (100 : Int32).toInt = 100) rfl).mpr c1
    refine t_rI (lo := (-2147483648)) (hi := 2147483647) hM (fun _ _ => rfl) (tA (tM (by decide : (100 : Int32).toInt = 100) rfl (by omega) (by omega)) rfl (by omega) (by omega)) (by omega) (by omega) (fun u1 eu1 bu1 => ?_)
    refine t_ite (fun c2 => ?_) (fun c2 => ?_)
    · have c2i := (iLE (a := u1) (b := (0 : Int32)) rfl (by decide : (0 : Int32).toInt = 0)).mp c2
      unfold bX9_extremeOf_66
      unfold bX9_extremeOf_67
      refine t_ite (fun c3 => ?_) (fun c3 => ?_)
      · have c3i := (iEQ (a := (0 : Int32)) (b := (0 : Int32)) (by decide : (0 : Int32).toInt = 0) (by decide : (0 : Int32).toInt = 0)).mp c3
        unfold bX9_extremeOf_80
        have m1 := ((tA rfl (by decide : (1 : Int32).toInt = 1) (by omega) (by omega)) : (s.2 + 1).toInt = (s.2.toInt + 1))
        have mm : (101 - (s.2 + 1).toInt).toNat < (101 - s.2.toInt).toNat := by omega
        have pp : ((-1) ≤ (s.1).toInt ∧ (s.1).toInt ≤ 99) ∧ (0 ≤ (s.2 + 1).toInt ∧ (s.2 + 1).toInt ≤ 100) := ⟨(by show ((-1) ≤ (s.1).toInt ∧ (s.1).toInt ≤ 99); omega), (by show (0 ≤ (s.2 + 1).toInt ∧ (s.2 + 1).toInt ≤ 100); have q := ((tA rfl (by decide : (1 : Int32).toInt = 1) (by omega) (by omega)) : (s.2 + 1).toInt = (s.2.toInt + 1)); omega)⟩
        exact t_ret ⟨pp, mm⟩
      · have c3i := mt (iEQ (a := (0 : Int32)) (b := (0 : Int32)) (by decide : (0 : Int32).toInt = 0) (by decide : (0 : Int32).toInt = 0)).mpr c3
        omega
    · have c2i := mt (iLE (a := u1) (b := (0 : Int32)) rfl (by decide : (0 : Int32).toInt = 0)).mpr c2
      refine t_ite (fun c4 => ?_) (fun c4 => ?_)
      · have c4i := (iEQ (a := s.1) (b := ((-1) : Int32)) rfl (by decide : ((-1) : Int32).toInt = (-1))).mp c4
        unfold bX9_extremeOf_62
        unfold bX9_extremeOf_67
        refine t_ite (fun c5 => ?_) (fun c5 => ?_)
        · have c5i := (iEQ (a := (1 : Int32)) (b := (0 : Int32)) (by decide : (1 : Int32).toInt = 1) (by decide : (0 : Int32).toInt = 0)).mp c5
          omega
        · have c5i := mt (iEQ (a := (1 : Int32)) (b := (0 : Int32)) (by decide : (1 : Int32).toInt = 1) (by decide : (0 : Int32).toInt = 0)).mpr c5
          unfold bX9_extremeOf_80
          have m1 := ((tA rfl (by decide : (1 : Int32).toInt = 1) (by omega) (by omega)) : (s.2 + 1).toInt = (s.2.toInt + 1))
          have mm : (101 - (s.2 + 1).toInt).toNat < (101 - s.2.toInt).toNat := by omega
          have pp : ((-1) ≤ (s.2).toInt ∧ (s.2).toInt ≤ 99) ∧ (0 ≤ (s.2 + 1).toInt ∧ (s.2 + 1).toInt ≤ 100) := ⟨(by show ((-1) ≤ (s.2).toInt ∧ (s.2).toInt ≤ 99); omega), (by show (0 ≤ (s.2 + 1).toInt ∧ (s.2 + 1).toInt ≤ 100); have q := ((tA rfl (by decide : (1 : Int32).toInt = 1) (by omega) (by omega)) : (s.2 + 1).toInt = (s.2.toInt + 1)); omega)⟩
          exact t_ret ⟨pp, mm⟩
      · have c4i := mt (iEQ (a := s.1) (b := ((-1) : Int32)) rfl (by decide : ((-1) : Int32).toInt = (-1))).mpr c4
        refine t_ite (fun c6 => ?_) (fun c6 => ?_)
        · have c6i := (iEQ (a := v2) (b := (2 : Int32)) rfl (by decide : (2 : Int32).toInt = 2)).mp c6
          unfold bX9_extremeOf_62
          unfold bX9_extremeOf_67
          refine t_ite (fun c7 => ?_) (fun c7 => ?_)
          · have c7i := (iEQ (a := (1 : Int32)) (b := (0 : Int32)) (by decide : (1 : Int32).toInt = 1) (by decide : (0 : Int32).toInt = 0)).mp c7
            omega
          · have c7i := mt (iEQ (a := (1 : Int32)) (b := (0 : Int32)) (by decide : (1 : Int32).toInt = 1) (by decide : (0 : Int32).toInt = 0)).mpr c7
            unfold bX9_extremeOf_80
            have m1 := ((tA rfl (by decide : (1 : Int32).toInt = 1) (by omega) (by omega)) : (s.2 + 1).toInt = (s.2.toInt + 1))
            have mm : (101 - (s.2 + 1).toInt).toNat < (101 - s.2.toInt).toNat := by omega
            have pp : ((-1) ≤ (s.2).toInt ∧ (s.2).toInt ≤ 99) ∧ (0 ≤ (s.2 + 1).toInt ∧ (s.2 + 1).toInt ≤ 100) := ⟨(by show ((-1) ≤ (s.2).toInt ∧ (s.2).toInt ≤ 99); omega), (by show (0 ≤ (s.2 + 1).toInt ∧ (s.2 + 1).toInt ≤ 100); have q := ((tA rfl (by decide : (1 : Int32).toInt = 1) (by omega) (by omega)) : (s.2 + 1).toInt = (s.2.toInt + 1)); omega)⟩
            exact t_ret ⟨pp, mm⟩
        · have c6i := mt (iEQ (a := v2) (b := (2 : Int32)) rfl (by decide : (2 : Int32).toInt = 2)).mpr c6
          refine t_ite (fun c8 => ?_) (fun c8 => ?_)
          · have c8i := (iEQ (a := v2) (b := (3 : Int32)) rfl (by decide : (3 : Int32).toInt = 3)).mp c8
            refine t_rI (lo := (-2147483648)) (hi := 2147483647) hM (fun _ _ => rfl) (tA (tM (by decide : (100 : Int32).toInt = 100) rfl (by omega) (by omega)) rfl (by omega) (by omega)) (by omega) (by omega) (fun u2 eu2 bu2 => ?_)
            refine t_ite (fun c9 => ?_) (fun c9 => ?_)
            · have c9i := (iLE (a := u1) (b := u2) rfl rfl).mp c9
              unfold bX9_extremeOf_66
              unfold bX9_extremeOf_67
              refine t_ite (fun c10 => ?_) (fun c10 => ?_)
              · have c10i := (iEQ (a := (0 : Int32)) (b := (0 : Int32)) (by decide : (0 : Int32).toInt = 0) (by decide : (0 : Int32).toInt = 0)).mp c10
                unfold bX9_extremeOf_80
                have m1 := ((tA rfl (by decide : (1 : Int32).toInt = 1) (by omega) (by omega)) : (s.2 + 1).toInt = (s.2.toInt + 1))
                have mm : (101 - (s.2 + 1).toInt).toNat < (101 - s.2.toInt).toNat := by omega
                have pp : ((-1) ≤ (s.1).toInt ∧ (s.1).toInt ≤ 99) ∧ (0 ≤ (s.2 + 1).toInt ∧ (s.2 + 1).toInt ≤ 100) := ⟨(by show ((-1) ≤ (s.1).toInt ∧ (s.1).toInt ≤ 99); omega), (by show (0 ≤ (s.2 + 1).toInt ∧ (s.2 + 1).toInt ≤ 100); have q := ((tA rfl (by decide : (1 : Int32).toInt = 1) (by omega) (by omega)) : (s.2 + 1).toInt = (s.2.toInt + 1)); omega)⟩
                exact t_ret ⟨pp, mm⟩
              · have c10i := mt (iEQ (a := (0 : Int32)) (b := (0 : Int32)) (by decide : (0 : Int32).toInt = 0) (by decide : (0 : Int32).toInt = 0)).mpr c10
                omega
            · have c9i := mt (iLE (a := u1) (b := u2) rfl rfl).mpr c9
              unfold bX9_extremeOf_62
              unfold bX9_extremeOf_67
              refine t_ite (fun c11 => ?_) (fun c11 => ?_)
              · have c11i := (iEQ (a := (1 : Int32)) (b := (0 : Int32)) (by decide : (1 : Int32).toInt = 1) (by decide : (0 : Int32).toInt = 0)).mp c11
                omega
              · have c11i := mt (iEQ (a := (1 : Int32)) (b := (0 : Int32)) (by decide : (1 : Int32).toInt = 1) (by decide : (0 : Int32).toInt = 0)).mpr c11
                unfold bX9_extremeOf_80
                have m1 := ((tA rfl (by decide : (1 : Int32).toInt = 1) (by omega) (by omega)) : (s.2 + 1).toInt = (s.2.toInt + 1))
                have mm : (101 - (s.2 + 1).toInt).toNat < (101 - s.2.toInt).toNat := by omega
                have pp : ((-1) ≤ (s.2).toInt ∧ (s.2).toInt ≤ 99) ∧ (0 ≤ (s.2 + 1).toInt ∧ (s.2 + 1).toInt ≤ 100) := ⟨(by show ((-1) ≤ (s.2).toInt ∧ (s.2).toInt ≤ 99); omega), (by show (0 ≤ (s.2 + 1).toInt ∧ (s.2 + 1).toInt ≤ 100); have q := ((tA rfl (by decide : (1 : Int32).toInt = 1) (by omega) (by omega)) : (s.2 + 1).toInt = (s.2.toInt + 1)); omega)⟩
                exact t_ret ⟨pp, mm⟩
          · have c8i := mt (iEQ (a := v2) (b := (3 : Int32)) rfl (by decide : (3 : Int32).toInt = 3)).mpr c8
            unfold bX9_extremeOf_66
            unfold bX9_extremeOf_67
            refine t_ite (fun c12 => ?_) (fun c12 => ?_)
            · have c12i := (iEQ (a := (0 : Int32)) (b := (0 : Int32)) (by decide : (0 : Int32).toInt = 0) (by decide : (0 : Int32).toInt = 0)).mp c12
              unfold bX9_extremeOf_80
              have m1 := ((tA rfl (by decide : (1 : Int32).toInt = 1) (by omega) (by omega)) : (s.2 + 1).toInt = (s.2.toInt + 1))
              have mm : (101 - (s.2 + 1).toInt).toNat < (101 - s.2.toInt).toNat := by omega
              have pp : ((-1) ≤ (s.1).toInt ∧ (s.1).toInt ≤ 99) ∧ (0 ≤ (s.2 + 1).toInt ∧ (s.2 + 1).toInt ≤ 100) := ⟨(by show ((-1) ≤ (s.1).toInt ∧ (s.1).toInt ≤ 99); omega), (by show (0 ≤ (s.2 + 1).toInt ∧ (s.2 + 1).toInt ≤ 100); have q := ((tA rfl (by decide : (1 : Int32).toInt = 1) (by omega) (by omega)) : (s.2 + 1).toInt = (s.2.toInt + 1)); omega)⟩
              exact t_ret ⟨pp, mm⟩
            · have c12i := mt (iEQ (a := (0 : Int32)) (b := (0 : Int32)) (by decide : (0 : Int32).toInt = 0) (by decide : (0 : Int32).toInt = 0)).mpr c12
              omega
set_option maxRecDepth 100000 in
set_option maxHeartbeats 1000000 in
theorem tfX9_extremeOf {I0 : gM} (v1 : Int32) (v2 : Int32) (I : gM) (hM : MI false I0 I) (av1 : 0 ≤ v1.toInt ∧ v1.toInt ≤ 3) : T (fX9_extremeOf v1 v2 I) (fun r => ((-1) ≤ r.toInt ∧ r.toInt ≤ 99)) := by
  unfold fX9_extremeOf
  refine t_bindE (tlX9_extremeOf_5 v1 v2 I hM (by omega) (((-1) : Int32), (0 : Int32)) ⟨(by show ((-1) ≤ (((-1) : Int32)).toInt ∧ (((-1) : Int32)).toInt ≤ 99); decide), (by show (0 ≤ ((0 : Int32)).toInt ∧ ((0 : Int32)).toInt ≤ 100); decide)⟩) (fun w3 ew3 pw3 => ?_)
  have bw3_0 : ((-1) ≤ w3.toInt ∧ w3.toInt ≤ 99) := pw3
  exact t_ret (by show (-1) ≤ (w3).toInt ∧ (w3).toInt ≤ 99; omega)
set_option maxRecDepth 100000 in
set_option maxHeartbeats 1000000 in
theorem tfX9_distinct {I0 : gM} (v1 : Int32) (v2 : Int32) (I : gM) (hM : MI false I0 I) : T (fX9_distinct v1 v2 I) (fun r => ((-1) ≤ r.1.toInt ∧ r.1.toInt ≤ 100) ∧ MI false I0 r.2) := by
  unfold fX9_distinct
  refine t_bindE (tfX9_isAsked v1 I hM) (fun r1 er1 pr1 => ?_)
  obtain ⟨br1_0, xr1_0⟩ := (show (0 ≤ r1.toInt ∧ r1.toInt ≤ 1) ∧ (r1.toInt = 0 ∨ (0 ≤ v1.toInt ∧ v1.toInt ≤ 3)) from pr1)
  refine t_ite (fun c1 => ?_) (fun c1 => ?_)
  · have c1i := (iEQ (a := r1) (b := (0 : Int32)) rfl (by decide : (0 : Int32).toInt = 0)).mp c1
    exact t_ret ⟨(by show (-1) ≤ (((-1) : Int32)).toInt ∧ (((-1) : Int32)).toInt ≤ 100; decide), hM⟩
  · have c1i := mt (iEQ (a := r1) (b := (0 : Int32)) rfl (by decide : (0 : Int32).toInt = 0)).mpr c1
    refine t_bindE (tfX9_in v2 (0 : Int32) (3 : Int32)) (fun r2 er2 pr2 => ?_)
    obtain ⟨br2_0, xr2_0⟩ := (show (0 ≤ r2.toInt ∧ r2.toInt ≤ 1) ∧ (r2.toInt = 0 ∨ ((0 : Int32).toInt ≤ v2.toInt ∧ v2.toInt ≤ (3 : Int32).toInt)) from pr2)
    have q2 : (0 : Int32).toInt = 0 := by decide
    have q3 : (3 : Int32).toInt = 3 := by decide
    refine t_ite (fun c4 => ?_) (fun c4 => ?_)
    · have c4i := (iEQ (a := r2) (b := (0 : Int32)) rfl (by decide : (0 : Int32).toInt = 0)).mp c4
      exact t_ret ⟨(by show (-1) ≤ (((-1) : Int32)).toInt ∧ (((-1) : Int32)).toInt ≤ 100; decide), hM⟩
    · have c4i := mt (iEQ (a := r2) (b := (0 : Int32)) rfl (by decide : (0 : Int32).toInt = 0)).mpr c4
      refine t_bindE (tfX9_counts I hM) (fun r3 er3 pr3 => ?_)
      obtain ⟨hr3_0, yr3_0⟩ := (show MI false I0 r3 ∧ (GJ9 r3 ∧ CT9 r3) from pr3)
      refine t_ite (fun c5 => ?_) (fun c5 => ?_)
      · have c5i := (iEQ (a := v2) (b := (0 : Int32)) rfl (by decide : (0 : Int32).toInt = 0)).mp c5
        refine t_rI (lo := 0) (hi := 100) hr3_0 (fun _ _ => rfl) rfl (by omega) (by omega) (fun u4 eu4 bu4 => ?_)
        exact t_ret ⟨(by show (-1) ≤ (u4).toInt ∧ (u4).toInt ≤ 100; omega), hr3_0⟩
      · have c5i := mt (iEQ (a := v2) (b := (0 : Int32)) rfl (by decide : (0 : Int32).toInt = 0)).mpr c5
        refine t_bindE (tfX9_extremeOf v1 v2 r3 hr3_0 (by omega)) (fun r5 er5 pr5 => ?_)
        have br5_0 : ((-1) ≤ r5.toInt ∧ r5.toInt ≤ 99) := pr5
        exact t_ret ⟨(by show (-1) ≤ (r5).toInt ∧ (r5).toInt ≤ 100; omega), hr3_0⟩
set_option maxRecDepth 100000 in
set_option maxHeartbeats 1000000 in
theorem tfX9_takesFour {I0 : gM} (v1 : Int32) (v2 : Int32) (v3 : Int32) (v4 : Int32) (I : gM) (hM : MI false I0 I) : T (fX9_takesFour v1 v2 v3 v4 I) (fun r => MI false I0 r) := by
  unfold fX9_takesFour
  refine t_wI (lo := (-2147483648)) (hi := 2147483647) hM rfl (fun _ _ => rfl) (by decide : (0 : Int32).toInt = 0) (by omega) (by omega) (tTop _) (fun I1 eI1 hI1 => ?_)
  refine t_wI (lo := (-2147483648)) (hi := 2147483647) hI1 rfl (fun _ _ => rfl) (by decide : (1 : Int32).toInt = 1) (by omega) (by omega) (tTop _) (fun I2 eI2 hI2 => ?_)
  refine t_wI (lo := (-2147483648)) (hi := 2147483647) hI2 rfl (fun _ _ => rfl) (by decide : (2 : Int32).toInt = 2) (by omega) (by omega) (tTop _) (fun I3 eI3 hI3 => ?_)
  refine t_wI (lo := (-2147483648)) (hi := 2147483647) hI3 rfl (fun _ _ => rfl) (by decide : (3 : Int32).toInt = 3) (by omega) (by omega) (tTop _) (fun I4 eI4 hI4 => ?_)
  exact t_ret hI4
set_option maxRecDepth 100000 in
set_option maxHeartbeats 1000000 in
theorem tlX9_comparesFour_2 {I0 : gM} (v1 : Int32) (I : gM) (hM : MI false I0 I) (av1 : 0 ≤ v1.toInt ∧ v1.toInt ≤ 20735) (s : Int32) (hP : (0 ≤ (s).toInt ∧ (s).toInt ≤ 2147483647)) : T (lX9_comparesFour_2 v1 I s) (Sum.elim (fun r : Int32 => (0 ≤ r.toInt ∧ r.toInt ≤ 3)) (fun r : Unit => True)) := by
  unfold lX9_comparesFour_2
  refine t_it (P := fun s : Int32 => (0 ≤ (s).toInt ∧ (s).toInt ≤ 2147483647)) (μ := fun s : Int32 => (2147483648 - s.toInt).toNat) (fun s p => ?_) hP
  have b0 : (0 ≤ (s).toInt ∧ (s).toInt ≤ 2147483647) := p
  have q1 := hM.at (k := 62) (j := 19) (lo := 0) (hi := 4) rfl
  refine t_ite (fun c2 => ?_) (fun c2 => ?_)
  · have c2i := (iLE (a := I 62 19) (b := s) rfl rfl).mp c2
    exact t_ret (show True from trivial)
  · have c2i := mt (iLE (a := I 62 19) (b := s) rfl rfl).mpr c2
    refine t_rI (lo := 0) (hi := 3) hM (fun _ _ => rfl) rfl (by omega) (by omega) (fun u1 eu1 bu1 => ?_)
    refine t_bindE (tfX9_numberOf v1 u1 I hM (by omega) (by omega)) (fun r2 er2 pr2 => ?_)
    have br2_0 : ((-1) ≤ r2.toInt ∧ r2.toInt ≤ 99) := pr2
    refine t_rI (lo := (-2147483648)) (hi := 2147483647) hM (fun _ _ => rfl) rfl (by omega) (by omega) (fun u3 eu3 bu3 => ?_)
    refine t_ite (fun c3 => ?_) (fun c3 => ?_)
    · have c3i := (iEQ (a := r2) (b := u3) rfl rfl).mp c3
      have m0 := ((tA rfl (by decide : (1 : Int32).toInt = 1) (by omega) (by omega)) : (s + 1).toInt = (s.toInt + 1))
      have mm : (2147483648 - (s + 1).toInt).toNat < (2147483648 - s.toInt).toNat := by omega
      have pp : (0 ≤ ((s + 1)).toInt ∧ ((s + 1)).toInt ≤ 2147483647) := (by show (0 ≤ ((s + 1)).toInt ∧ ((s + 1)).toInt ≤ 2147483647); have q := ((tA rfl (by decide : (1 : Int32).toInt = 1) (by omega) (by omega)) : (s + 1).toInt = (s.toInt + 1)); omega)
      exact t_ret ⟨pp, mm⟩
    · have c3i := mt (iEQ (a := r2) (b := u3) rfl rfl).mpr c3
      exact t_ret (show (0 ≤ (u1).toInt ∧ (u1).toInt ≤ 3) from (by omega))
set_option maxRecDepth 100000 in
set_option maxHeartbeats 1000000 in
theorem tfX9_comparesFour {I0 : gM} (v1 : Int32) (I : gM) (hM : MI false I0 I) (av1 : 0 ≤ v1.toInt ∧ v1.toInt ≤ 20735) : T (fX9_comparesFour v1 I) (fun r => ((-1) ≤ r.toInt ∧ r.toInt ≤ 1)) := by
  unfold fX9_comparesFour
  refine t_bindE (tlX9_comparesFour_2 v1 I hM (by omega) (0 : Int32) (by show (0 ≤ ((0 : Int32)).toInt ∧ ((0 : Int32)).toInt ≤ 2147483647); decide)) (fun w4 ew4 pw4 => ?_)
  rcases w4 with w4_0 | w4_1
  · refine t_el ?_
    have bw4_0_0 : (0 ≤ w4_0.toInt ∧ w4_0.toInt ≤ 3) := pw4
    refine t_bindE (tfX9_numberOf v1 w4_0 I hM (by omega) (by omega)) (fun r5 er5 pr5 => ?_)
    have br5_0 : ((-1) ≤ r5.toInt ∧ r5.toInt ≤ 99) := pr5
    refine t_rI (lo := (-2147483648)) (hi := 2147483647) hM (fun _ _ => rfl) rfl (by omega) (by omega) (fun u6 eu6 bu6 => ?_)
    refine t_ite (fun c1 => ?_) (fun c1 => ?_)
    · have c1i := (iLE (a := u6) (b := r5) rfl rfl).mp c1
      exact t_ret (by show (-1) ≤ ((1 : Int32)).toInt ∧ ((1 : Int32)).toInt ≤ 1; decide)
    · have c1i := mt (iLE (a := u6) (b := r5) rfl rfl).mpr c1
      exact t_ret (by show (-1) ≤ (((-1) : Int32)).toInt ∧ (((-1) : Int32)).toInt ≤ 1; decide)
  · refine t_er ?_
    exact t_ret (by show (-1) ≤ ((0 : Int32)).toInt ∧ ((0 : Int32)).toInt ≤ 1; decide)
set_option maxRecDepth 100000 in
set_option maxHeartbeats 1000000 in
theorem tlX9_behind_25 {I0 : gM} (I : gM) (hM : MI false I0 I) (s : Int32) (hP : (0 ≤ (s).toInt ∧ (s).toInt ≤ 2147483647)) : T (lX9_behind_25 I s) (Sum.elim (fun r : Int32 => True) (fun r : Unit => True)) := by
  unfold lX9_behind_25
  refine t_it (P := fun s : Int32 => (0 ≤ (s).toInt ∧ (s).toInt ≤ 2147483647)) (μ := fun s : Int32 => (2147483648 - s.toInt).toNat) (fun s p => ?_) hP
  have b0 : (0 ≤ (s).toInt ∧ (s).toInt ≤ 2147483647) := p
  have q1 := hM.at (k := 62) (j := 26) (lo := 0) (hi := 20736) rfl
  refine t_ite (fun c2 => ?_) (fun c2 => ?_)
  · have c2i := (iLE (a := I 62 26) (b := s) rfl rfl).mp c2
    exact t_ret (show True from trivial)
  · have c2i := mt (iLE (a := I 62 26) (b := s) rfl rfl).mpr c2
    refine t_bindE (tfX9_comparesFour s I hM (by omega)) (fun r4 er4 pr4 => ?_)
    have br4_0 : ((-1) ≤ r4.toInt ∧ r4.toInt ≤ 1) := pr4
    refine t_ite (fun c3 => ?_) (fun c3 => ?_)
    · have c3i := (iLE (a := r4) (b := (0 : Int32)) rfl (by decide : (0 : Int32).toInt = 0)).mp c3
      have m0 := ((tA rfl (by decide : (1 : Int32).toInt = 1) (by omega) (by omega)) : (s + 1).toInt = (s.toInt + 1))
      have mm : (2147483648 - (s + 1).toInt).toNat < (2147483648 - s.toInt).toNat := by omega
      have pp : (0 ≤ ((s + 1)).toInt ∧ ((s + 1)).toInt ≤ 2147483647) := (by show (0 ≤ ((s + 1)).toInt ∧ ((s + 1)).toInt ≤ 2147483647); have q := ((tA rfl (by decide : (1 : Int32).toInt = 1) (by omega) (by omega)) : (s + 1).toInt = (s.toInt + 1)); omega)
      exact t_ret ⟨pp, mm⟩
    · have c3i := mt (iLE (a := r4) (b := (0 : Int32)) rfl (by decide : (0 : Int32).toInt = 0)).mpr c3
      exact t_ret (show True from trivial)
set_option maxRecDepth 100000 in
set_option maxHeartbeats 1000000 in
theorem tfX9_behind {I0 : gM} (v1 : Int32) (v2 : Int32) (v3 : Int32) (v4 : Int32) (I : gM) (hM : MI false I0 I) : T (fX9_behind v1 v2 v3 v4 I) (fun r => MI false I0 r.2) := by
  unfold fX9_behind
  refine t_bindE (tfX9_areTables I hM) (fun r1 er1 pr1 => ?_)
  have br1_0 : (0 ≤ r1.toInt ∧ r1.toInt ≤ 1) := pr1
  refine t_ite (fun c1 => ?_) (fun c1 => ?_)
  · have c1i := (iEQ (a := r1) (b := (0 : Int32)) rfl (by decide : (0 : Int32).toInt = 0)).mp c1
    exact t_ret hM
  · have c1i := mt (iEQ (a := r1) (b := (0 : Int32)) rfl (by decide : (0 : Int32).toInt = 0)).mpr c1
    refine t_bindE (tfX9_takesFour v1 v2 v3 v4 I hM) (fun r2 er2 pr2 => ?_)
    have hr2_0 : MI false I0 r2 := pr2
    refine t_bindE (tfX9_joinsNow r2 hr2_0) (fun r3 er3 pr3 => ?_)
    obtain ⟨hr3_0, yr3_0⟩ := (show MI false I0 r3 ∧ (GJ9 r3) from pr3)
    refine t_bindE (tlX9_behind_25 r3 hr3_0 (0 : Int32) (by show (0 ≤ ((0 : Int32)).toInt ∧ ((0 : Int32)).toInt ≤ 2147483647); decide)) (fun w5 ew5 pw5 => ?_)
    rcases w5 with w5_0 | w5_1
    · refine t_el ?_
      exact t_ret hr3_0
    · refine t_er ?_
      exact t_ret hr3_0
set_option maxRecDepth 100000 in
set_option maxHeartbeats 1000000 in
theorem tlX9_has__25 {I0 : gM} (I : gM) (hM : MI false I0 I) (s : Int32) (hP : (0 ≤ (s).toInt ∧ (s).toInt ≤ 2147483647)) : T (lX9_has__25 I s) (Sum.elim (fun r : Unit => True) (fun r : Unit => True)) := by
  unfold lX9_has__25
  refine t_it (P := fun s : Int32 => (0 ≤ (s).toInt ∧ (s).toInt ≤ 2147483647)) (μ := fun s : Int32 => (2147483648 - s.toInt).toNat) (fun s p => ?_) hP
  have b0 : (0 ≤ (s).toInt ∧ (s).toInt ≤ 2147483647) := p
  have q1 := hM.at (k := 62) (j := 26) (lo := 0) (hi := 20736) rfl
  refine t_ite (fun c2 => ?_) (fun c2 => ?_)
  · have c2i := (iLE (a := I 62 26) (b := s) rfl rfl).mp c2
    exact t_ret (show True from trivial)
  · have c2i := mt (iLE (a := I 62 26) (b := s) rfl rfl).mpr c2
    refine t_bindE (tfX9_comparesFour s I hM (by omega)) (fun r4 er4 pr4 => ?_)
    have br4_0 : ((-1) ≤ r4.toInt ∧ r4.toInt ≤ 1) := pr4
    refine t_ite (fun c3 => ?_) (fun c3 => ?_)
    · have c3i := (iEQ (a := r4) (b := (0 : Int32)) rfl (by decide : (0 : Int32).toInt = 0)).mp c3
      exact t_ret (show True from trivial)
    · have c3i := mt (iEQ (a := r4) (b := (0 : Int32)) rfl (by decide : (0 : Int32).toInt = 0)).mpr c3
      have m0 := ((tA rfl (by decide : (1 : Int32).toInt = 1) (by omega) (by omega)) : (s + 1).toInt = (s.toInt + 1))
      have mm : (2147483648 - (s + 1).toInt).toNat < (2147483648 - s.toInt).toNat := by omega
      have pp : (0 ≤ ((s + 1)).toInt ∧ ((s + 1)).toInt ≤ 2147483647) := (by show (0 ≤ ((s + 1)).toInt ∧ ((s + 1)).toInt ≤ 2147483647); have q := ((tA rfl (by decide : (1 : Int32).toInt = 1) (by omega) (by omega)) : (s + 1).toInt = (s.toInt + 1)); omega)
      exact t_ret ⟨pp, mm⟩
set_option maxRecDepth 100000 in
set_option maxHeartbeats 1000000 in
theorem tfX9_has_ {I0 : gM} (v1 : Int32) (v2 : Int32) (v3 : Int32) (v4 : Int32) (I : gM) (hM : MI false I0 I) : T (fX9_has_ v1 v2 v3 v4 I) (fun r => (0 ≤ r.1.toInt ∧ r.1.toInt ≤ 1) ∧ MI false I0 r.2) := by
  unfold fX9_has_
  refine t_bindE (tfX9_areTables I hM) (fun r1 er1 pr1 => ?_)
  have br1_0 : (0 ≤ r1.toInt ∧ r1.toInt ≤ 1) := pr1
  refine t_ite (fun c1 => ?_) (fun c1 => ?_)
  · have c1i := (iEQ (a := r1) (b := (0 : Int32)) rfl (by decide : (0 : Int32).toInt = 0)).mp c1
    exact t_ret ⟨(by show 0 ≤ ((0 : Int32)).toInt ∧ ((0 : Int32)).toInt ≤ 1; decide), hM⟩
  · have c1i := mt (iEQ (a := r1) (b := (0 : Int32)) rfl (by decide : (0 : Int32).toInt = 0)).mpr c1
    refine t_bindE (tfX9_takesFour v1 v2 v3 v4 I hM) (fun r2 er2 pr2 => ?_)
    have hr2_0 : MI false I0 r2 := pr2
    refine t_bindE (tfX9_joinsNow r2 hr2_0) (fun r3 er3 pr3 => ?_)
    obtain ⟨hr3_0, yr3_0⟩ := (show MI false I0 r3 ∧ (GJ9 r3) from pr3)
    refine t_bindE (tlX9_has__25 r3 hr3_0 (0 : Int32) (by show (0 ≤ ((0 : Int32)).toInt ∧ ((0 : Int32)).toInt ≤ 2147483647); decide)) (fun w5 ew5 pw5 => ?_)
    rcases w5 with w5_0 | w5_1
    · refine t_el ?_
      exact t_ret ⟨(by show 0 ≤ ((1 : Int32)).toInt ∧ ((1 : Int32)).toInt ≤ 1; decide), hr3_0⟩
    · refine t_er ?_
      exact t_ret ⟨(by show 0 ≤ ((0 : Int32)).toInt ∧ ((0 : Int32)).toInt ≤ 1; decide), hr3_0⟩
set_option maxRecDepth 100000 in
set_option maxHeartbeats 1000000 in
theorem tfX9_hasMean {I0 : gM} (v1 : Int32) (I : gM) (hM : MI false I0 I) : T (fX9_hasMean v1 I) (fun r => (0 ≤ r.1.toInt ∧ r.1.toInt ≤ 1) ∧ MI false I0 r.2) := by
  unfold fX9_hasMean
  refine t_bindE (tfX9_isAsked v1 I hM) (fun r1 er1 pr1 => ?_)
  obtain ⟨br1_0, xr1_0⟩ := (show (0 ≤ r1.toInt ∧ r1.toInt ≤ 1) ∧ (r1.toInt = 0 ∨ (0 ≤ v1.toInt ∧ v1.toInt ≤ 3)) from pr1)
  refine t_ite (fun c1 => ?_) (fun c1 => ?_)
  · have c1i := (iEQ (a := r1) (b := (0 : Int32)) rfl (by decide : (0 : Int32).toInt = 0)).mp c1
    exact t_ret ⟨(by show 0 ≤ ((0 : Int32)).toInt ∧ ((0 : Int32)).toInt ≤ 1; decide), hM⟩
  · have c1i := mt (iEQ (a := r1) (b := (0 : Int32)) rfl (by decide : (0 : Int32).toInt = 0)).mpr c1
    refine t_bindE (tfX9_rowsNow I hM) (fun r2 er2 pr2 => ?_)
    obtain ⟨br2_0, hr2_1⟩ := (show (0 ≤ r2.1.toInt ∧ r2.1.toInt ≤ 20736) ∧ MI false I0 r2.2 from pr2)
    refine t_ite (fun c2 => ?_) (fun c2 => ?_)
    · have c2i := (iLE (a := r2.1) (b := (0 : Int32)) rfl (by decide : (0 : Int32).toInt = 0)).mp c2
      exact t_ret ⟨(by show 0 ≤ ((0 : Int32)).toInt ∧ ((0 : Int32)).toInt ≤ 1; decide), hr2_1⟩
    · have c2i := mt (iLE (a := r2.1) (b := (0 : Int32)) rfl (by decide : (0 : Int32).toInt = 0)).mpr c2
      exact t_ret ⟨(by show 0 ≤ ((1 : Int32)).toInt ∧ ((1 : Int32)).toInt ≤ 1; decide), hr2_1⟩
set_option maxRecDepth 100000 in
set_option maxHeartbeats 1000000 in
theorem tfX9_isScript {I0 : gM} (v1 : Int32) (I : gM) (hM : MI false I0 I) : T (fX9_isScript v1 I) (fun r => (0 ≤ r.toInt ∧ r.toInt ≤ 1) ∧ (r.toInt = 0 ∨ (0 ≤ v1.toInt ∧ v1.toInt ≤ 3))) := by
  unfold fX9_isScript
  refine t_bindE (tfX9_in v1 (0 : Int32) ((I 62 12) - 1)) (fun r1 er1 pr1 => ?_)
  obtain ⟨br1_0, xr1_0⟩ := (show (0 ≤ r1.toInt ∧ r1.toInt ≤ 1) ∧ (r1.toInt = 0 ∨ ((0 : Int32).toInt ≤ v1.toInt ∧ v1.toInt ≤ ((I 62 12) - 1).toInt)) from pr1)
  have q1 : (0 : Int32).toInt = 0 := by decide
  have q2 := hM.at (k := 62) (j := 12) (lo := 0) (hi := 4) rfl
  have q3 := ((tS rfl (by decide : (1 : Int32).toInt = 1) (by omega) (by omega)) : ((I 62 12) - 1).toInt = ((I 62 12).toInt - 1))
  refine t_bO (by omega) ?_
  exact t_ret ⟨(by show 0 ≤ (r1).toInt ∧ (r1).toInt ≤ 1; omega), (by show r1.toInt = 0 ∨ (0 ≤ v1.toInt ∧ v1.toInt ≤ 3); skip; omega)⟩
set_option maxRecDepth 100000 in
set_option maxHeartbeats 1000000 in
theorem tfX9_step {I0 : gM} (v1 : Int32) (v2 : Int32) (v3 : Int32) (I : gM) (hM : MI false I0 I) : T (fX9_step v1 v2 v3 I) (fun r => True) := by
  unfold fX9_step
  refine t_bindE (tfX9_isScript v1 I hM) (fun r1 er1 pr1 => ?_)
  obtain ⟨br1_0, xr1_0⟩ := (show (0 ≤ r1.toInt ∧ r1.toInt ≤ 1) ∧ (r1.toInt = 0 ∨ (0 ≤ v1.toInt ∧ v1.toInt ≤ 3)) from pr1)
  refine t_ite (fun c1 => ?_) (fun c1 => ?_)
  · have c1i := (iEQ (a := r1) (b := (0 : Int32)) rfl (by decide : (0 : Int32).toInt = 0)).mp c1
    exact t_ret trivial
  · have c1i := mt (iEQ (a := r1) (b := (0 : Int32)) rfl (by decide : (0 : Int32).toInt = 0)).mpr c1
    refine t_rI (lo := 0) (hi := 12) hM (fun _ _ => rfl) rfl (by omega) (by omega) (fun u2 eu2 bu2 => ?_)
    refine t_bindE (tfX9_in v2 (0 : Int32) (u2 - 1)) (fun r3 er3 pr3 => ?_)
    obtain ⟨br3_0, xr3_0⟩ := (show (0 ≤ r3.toInt ∧ r3.toInt ≤ 1) ∧ (r3.toInt = 0 ∨ ((0 : Int32).toInt ≤ v2.toInt ∧ v2.toInt ≤ (u2 - 1).toInt)) from pr3)
    have q2 : (0 : Int32).toInt = 0 := by decide
    have q3 := ((tS rfl (by decide : (1 : Int32).toInt = 1) (by omega) (by omega)) : (u2 - 1).toInt = (u2.toInt - 1))
    refine t_ite (fun c4 => ?_) (fun c4 => ?_)
    · have c4i := (iEQ (a := r3) (b := (0 : Int32)) rfl (by decide : (0 : Int32).toInt = 0)).mp c4
      exact t_ret trivial
    · have c4i := mt (iEQ (a := r3) (b := (0 : Int32)) rfl (by decide : (0 : Int32).toInt = 0)).mpr c4
      refine t_bindE (tfX9_in v3 (0 : Int32) (4 : Int32)) (fun r4 er4 pr4 => ?_)
      obtain ⟨br4_0, xr4_0⟩ := (show (0 ≤ r4.toInt ∧ r4.toInt ≤ 1) ∧ (r4.toInt = 0 ∨ ((0 : Int32).toInt ≤ v3.toInt ∧ v3.toInt ≤ (4 : Int32).toInt)) from pr4)
      have q5 : (0 : Int32).toInt = 0 := by decide
      have q6 : (4 : Int32).toInt = 4 := by decide
      refine t_ite (fun c7 => ?_) (fun c7 => ?_)
      · have c7i := (iEQ (a := r4) (b := (0 : Int32)) rfl (by decide : (0 : Int32).toInt = 0)).mp c7
        exact t_ret trivial
      · have c7i := mt (iEQ (a := r4) (b := (0 : Int32)) rfl (by decide : (0 : Int32).toInt = 0)).mpr c7
        refine t_rI (lo := (-2147483648)) (hi := 2147483647) hM (fun _ _ => rfl) (tA (tM (by decide : (5 : Int32).toInt = 5) (tA (tM (by decide : (12 : Int32).toInt = 12) rfl (by omega) (by omega)) rfl (by omega) (by omega)) (by omega) (by omega)) rfl (by omega) (by omega)) (by omega) (by omega) (fun u5 eu5 bu5 => ?_)
        exact t_ret trivial
set_option maxRecDepth 100000 in
set_option maxHeartbeats 1000000 in
theorem tlX9_sumOfRows_26 {I0 : gM} (v2 : Int32) (v3 : Int32) (I : gM) (hM : MI false I0 I) (av2 : 0 ≤ v2.toInt ∧ v2.toInt ≤ 3) (av3 : 0 ≤ v3.toInt ∧ v3.toInt ≤ 11) (s : (Int32 × Int32)) (hP : (0 ≤ (s.2).toInt ∧ (s.2).toInt ≤ 2147483647)) : T (lX9_sumOfRows_26 v2 v3 I s) (fun r : Int32 => True) := by
  unfold lX9_sumOfRows_26
  refine t_it (P := fun s : (Int32 × Int32) => (0 ≤ (s.2).toInt ∧ (s.2).toInt ≤ 2147483647)) (μ := fun s : (Int32 × Int32) => (2147483648 - s.2.toInt).toNat) (fun s p => ?_) hP
  have b1 : (0 ≤ (s.2).toInt ∧ (s.2).toInt ≤ 2147483647) := p
  refine t_rI (lo := 0) (hi := 3) hM (fun _ _ => rfl) rfl (by omega) (by omega) (fun u2 eu2 bu2 => ?_)
  refine t_ite (fun c1 => ?_) (fun c1 => ?_)
  · have c1i := (iLE (a := u2) (b := s.2) rfl rfl).mp c1
    exact t_ret (show True from trivial)
  · have c1i := mt (iLE (a := u2) (b := s.2) rfl rfl).mpr c1
    refine t_bindE (tfX9_rowAt v2 v3 (by omega) (by omega)) (fun r3 er3 pr3 => ?_)
    obtain ⟨br3_0, xr3_0⟩ := (show (3 ≤ r3.toInt ∧ r3.toInt ≤ 150) ∧ (r3.toInt = 6 + 3 * (12 * v2.toInt + v3.toInt)) from pr3)
    refine t_rJ (lo := (-1)) (hi := 99) hM (tA rfl rfl (by omega) (by omega)) (by omega) (by omega) (rgRow (by omega) (by omega)) (fun u4 eu4 bu4 => ?_)
    have m1 := ((tA rfl (by decide : (1 : Int32).toInt = 1) (by omega) (by omega)) : (s.2 + 1).toInt = (s.2.toInt + 1))
    have mm : (2147483648 - (s.2 + 1).toInt).toNat < (2147483648 - s.2.toInt).toNat := by omega
    have pp : (0 ≤ (s.2 + 1).toInt ∧ (s.2 + 1).toInt ≤ 2147483647) := (by show (0 ≤ (s.2 + 1).toInt ∧ (s.2 + 1).toInt ≤ 2147483647); have q := ((tA rfl (by decide : (1 : Int32).toInt = 1) (by omega) (by omega)) : (s.2 + 1).toInt = (s.2.toInt + 1)); omega)
    exact t_ret ⟨pp, mm⟩
set_option maxRecDepth 100000 in
set_option maxHeartbeats 1000000 in
theorem tlX9_sumOfRows_14 {I0 : gM} (v2 : Int32) (I : gM) (hM : MI false I0 I) (av2 : 0 ≤ v2.toInt ∧ v2.toInt ≤ 3) (s : (Int32 × Int32)) (hP : (0 ≤ (s.2).toInt ∧ (s.2).toInt ≤ 2147483647)) : T (lX9_sumOfRows_14 v2 I s) (fun r : Int32 => True) := by
  unfold lX9_sumOfRows_14
  refine t_it (P := fun s : (Int32 × Int32) => (0 ≤ (s.2).toInt ∧ (s.2).toInt ≤ 2147483647)) (μ := fun s : (Int32 × Int32) => (2147483648 - s.2.toInt).toNat) (fun s p => ?_) hP
  have b1 : (0 ≤ (s.2).toInt ∧ (s.2).toInt ≤ 2147483647) := p
  refine t_bindE (tfX9_many v2 I hM (by omega)) (fun r1 er1 pr1 => ?_)
  obtain ⟨br1_0, xr1_0⟩ := (show (0 ≤ r1.toInt ∧ r1.toInt ≤ 12) ∧ (r1.toInt = (I 70 (2 + v2.toInt).toNat).toInt) from pr1)
  refine t_ite (fun c1 => ?_) (fun c1 => ?_)
  · have c1i := (iLE (a := r1) (b := s.2) rfl rfl).mp c1
    exact t_ret (show True from trivial)
  · have c1i := mt (iLE (a := r1) (b := s.2) rfl rfl).mpr c1
    refine t_bindE (tlX9_sumOfRows_26 v2 s.2 I hM (by omega) (by omega) (s.1, (0 : Int32)) (by show (0 ≤ ((0 : Int32)).toInt ∧ ((0 : Int32)).toInt ≤ 2147483647); decide)) (fun w5 ew5 pw5 => ?_)
    have m1 := ((tA rfl (by decide : (1 : Int32).toInt = 1) (by omega) (by omega)) : (s.2 + 1).toInt = (s.2.toInt + 1))
    have mm : (2147483648 - (s.2 + 1).toInt).toNat < (2147483648 - s.2.toInt).toNat := by omega
    have pp : (0 ≤ (s.2 + 1).toInt ∧ (s.2 + 1).toInt ≤ 2147483647) := (by show (0 ≤ (s.2 + 1).toInt ∧ (s.2 + 1).toInt ≤ 2147483647); have q := ((tA rfl (by decide : (1 : Int32).toInt = 1) (by omega) (by omega)) : (s.2 + 1).toInt = (s.2.toInt + 1)); omega)
    exact t_ret ⟨pp, mm⟩
set_option maxRecDepth 100000 in
set_option maxHeartbeats 1000000 in
theorem tlX9_sumOfRows_4 {I0 : gM} (I : gM) (hM : MI false I0 I) (s : (Int32 × Int32)) (hP : (0 ≤ (s.2).toInt ∧ (s.2).toInt ≤ 2147483647)) : T (lX9_sumOfRows_4 I s) (fun r : Int32 => True) := by
  unfold lX9_sumOfRows_4
  refine t_it (P := fun s : (Int32 × Int32) => (0 ≤ (s.2).toInt ∧ (s.2).toInt ≤ 2147483647)) (μ := fun s : (Int32 × Int32) => (2147483648 - s.2.toInt).toNat) (fun s p => ?_) hP
  have b1 : (0 ≤ (s.2).toInt ∧ (s.2).toInt ≤ 2147483647) := p
  have q1 := hM.at (k := 62) (j := 17) (lo := 0) (hi := 4) rfl
  refine t_ite (fun c2 => ?_) (fun c2 => ?_)
  · have c2i := (iLE (a := I 62 17) (b := s.2) rfl rfl).mp c2
    exact t_ret (show True from trivial)
  · have c2i := mt (iLE (a := I 62 17) (b := s.2) rfl rfl).mpr c2
    refine t_bindE (tlX9_sumOfRows_14 s.2 I hM (by omega) (s.1, (0 : Int32)) (by show (0 ≤ ((0 : Int32)).toInt ∧ ((0 : Int32)).toInt ≤ 2147483647); decide)) (fun w6 ew6 pw6 => ?_)
    have m1 := ((tA rfl (by decide : (1 : Int32).toInt = 1) (by omega) (by omega)) : (s.2 + 1).toInt = (s.2.toInt + 1))
    have mm : (2147483648 - (s.2 + 1).toInt).toNat < (2147483648 - s.2.toInt).toNat := by omega
    have pp : (0 ≤ (s.2 + 1).toInt ∧ (s.2 + 1).toInt ≤ 2147483647) := (by show (0 ≤ (s.2 + 1).toInt ∧ (s.2 + 1).toInt ≤ 2147483647); have q := ((tA rfl (by decide : (1 : Int32).toInt = 1) (by omega) (by omega)) : (s.2 + 1).toInt = (s.2.toInt + 1)); omega)
    exact t_ret ⟨pp, mm⟩
set_option maxRecDepth 100000 in
set_option maxHeartbeats 1000000 in
theorem tfX9_sumOfRows {I0 : gM} (I : gM) (hM : MI false I0 I) : T (fX9_sumOfRows I) (fun r => True) := by
  unfold fX9_sumOfRows
  refine t_bindE (tlX9_sumOfRows_4 I hM ((0 : Int32), (0 : Int32)) (by show (0 ≤ ((0 : Int32)).toInt ∧ ((0 : Int32)).toInt ≤ 2147483647); decide)) (fun w7 ew7 pw7 => ?_)
  exact t_ret trivial
set_option maxRecDepth 100000 in
set_option maxHeartbeats 1000000 in
theorem tlX9_greatestTable_4 {I0 : gM} (v1 : Int32) (I : gM) (hM : MI false I0 I) (s : (Int32 × Int32)) (hP : (0 ≤ (s.1).toInt ∧ (s.1).toInt ≤ 3) ∧ (0 ≤ (s.2).toInt ∧ (s.2).toInt ≤ 2147483647)) : T (lX9_greatestTable_4 v1 I s) (fun r : Int32 => (0 ≤ r.toInt ∧ r.toInt ≤ 3)) := by
  unfold lX9_greatestTable_4
  refine t_it (P := fun s : (Int32 × Int32) => (0 ≤ (s.1).toInt ∧ (s.1).toInt ≤ 3) ∧ (0 ≤ (s.2).toInt ∧ (s.2).toInt ≤ 2147483647)) (μ := fun s : (Int32 × Int32) => (2147483648 - s.2.toInt).toNat) (fun s p => ?_) hP
  obtain ⟨b0, b1⟩ := p
  have q1 := hM.at (k := 62) (j := 17) (lo := 0) (hi := 4) rfl
  refine t_ite (fun c2 => ?_) (fun c2 => ?_)
  · have c2i := (iLE (a := I 62 17) (b := s.2) rfl rfl).mp c2
    exact t_ret (show (0 ≤ (s.1).toInt ∧ (s.1).toInt ≤ 3) from (by omega))
  · have c2i := mt (iLE (a := I 62 17) (b := s.2) rfl rfl).mpr c2
    refine t_ite (fun c3 => ?_) (fun c3 => ?_)
    · have c3i := (iEQ (a := v1) (b := (0 : Int32)) rfl (by decide : (0 : Int32).toInt = 0)).mp c3
      refine t_bindE (tfX9_many s.2 I hM (by omega)) (fun r1 er1 pr1 => ?_)
      obtain ⟨br1_0, xr1_0⟩ := (show (0 ≤ r1.toInt ∧ r1.toInt ≤ 12) ∧ (r1.toInt = (I 70 (2 + s.2.toInt).toNat).toInt) from pr1)
      refine t_bindE (tfX9_many s.1 I hM (by omega)) (fun r2 er2 pr2 => ?_)
      obtain ⟨br2_0, xr2_0⟩ := (show (0 ≤ r2.toInt ∧ r2.toInt ≤ 12) ∧ (r2.toInt = (I 70 (2 + s.1.toInt).toNat).toInt) from pr2)
      refine t_ite (fun c4 => ?_) (fun c4 => ?_)
      · have c4i := (iLE (a := r1) (b := r2) rfl rfl).mp c4
        unfold bX9_greatestTable_61
        refine t_ite (fun c5 => ?_) (fun c5 => ?_)
        · have c5i := (iEQ (a := (0 : Int32)) (b := (0 : Int32)) (by decide : (0 : Int32).toInt = 0) (by decide : (0 : Int32).toInt = 0)).mp c5
          unfold bX9_greatestTable_73
          have m1 := ((tA rfl (by decide : (1 : Int32).toInt = 1) (by omega) (by omega)) : (s.2 + 1).toInt = (s.2.toInt + 1))
          have mm : (2147483648 - (s.2 + 1).toInt).toNat < (2147483648 - s.2.toInt).toNat := by omega
          have pp : (0 ≤ (s.1).toInt ∧ (s.1).toInt ≤ 3) ∧ (0 ≤ (s.2 + 1).toInt ∧ (s.2 + 1).toInt ≤ 2147483647) := ⟨(by show (0 ≤ (s.1).toInt ∧ (s.1).toInt ≤ 3); omega), (by show (0 ≤ (s.2 + 1).toInt ∧ (s.2 + 1).toInt ≤ 2147483647); have q := ((tA rfl (by decide : (1 : Int32).toInt = 1) (by omega) (by omega)) : (s.2 + 1).toInt = (s.2.toInt + 1)); omega)⟩
          exact t_ret ⟨pp, mm⟩
        · have c5i := mt (iEQ (a := (0 : Int32)) (b := (0 : Int32)) (by decide : (0 : Int32).toInt = 0) (by decide : (0 : Int32).toInt = 0)).mpr c5
          omega
      · have c4i := mt (iLE (a := r1) (b := r2) rfl rfl).mpr c4
        unfold bX9_greatestTable_61
        refine t_ite (fun c6 => ?_) (fun c6 => ?_)
        · have c6i := (iEQ (a := (1 : Int32)) (b := (0 : Int32)) (by decide : (1 : Int32).toInt = 1) (by decide : (0 : Int32).toInt = 0)).mp c6
          omega
        · have c6i := mt (iEQ (a := (1 : Int32)) (b := (0 : Int32)) (by decide : (1 : Int32).toInt = 1) (by decide : (0 : Int32).toInt = 0)).mpr c6
          unfold bX9_greatestTable_73
          have m1 := ((tA rfl (by decide : (1 : Int32).toInt = 1) (by omega) (by omega)) : (s.2 + 1).toInt = (s.2.toInt + 1))
          have mm : (2147483648 - (s.2 + 1).toInt).toNat < (2147483648 - s.2.toInt).toNat := by omega
          have pp : (0 ≤ (s.2).toInt ∧ (s.2).toInt ≤ 3) ∧ (0 ≤ (s.2 + 1).toInt ∧ (s.2 + 1).toInt ≤ 2147483647) := ⟨(by show (0 ≤ (s.2).toInt ∧ (s.2).toInt ≤ 3); omega), (by show (0 ≤ (s.2 + 1).toInt ∧ (s.2 + 1).toInt ≤ 2147483647); have q := ((tA rfl (by decide : (1 : Int32).toInt = 1) (by omega) (by omega)) : (s.2 + 1).toInt = (s.2.toInt + 1)); omega)⟩
          exact t_ret ⟨pp, mm⟩
    · have c3i := mt (iEQ (a := v1) (b := (0 : Int32)) rfl (by decide : (0 : Int32).toInt = 0)).mpr c3
      refine t_bindE (tfX9_givenBy s.2 I hM (by omega)) (fun r3 er3 pr3 => ?_)
      refine t_bindE (tfX9_bits r3) (fun r4 er4 pr4 => ?_)
      refine t_bindE (tfX9_givenBy s.1 I hM (by omega)) (fun r5 er5 pr5 => ?_)
      refine t_bindE (tfX9_bits r5) (fun r6 er6 pr6 => ?_)
      refine t_ite (fun c7 => ?_) (fun c7 => ?_)
      · have c7i := (iLE (a := r4) (b := r6) rfl rfl).mp c7
        unfold bX9_greatestTable_61
        refine t_ite (fun c8 => ?_) (fun c8 => ?_)
        · have c8i := (iEQ (a := (0 : Int32)) (b := (0 : Int32)) (by decide : (0 : Int32).toInt = 0) (by decide : (0 : Int32).toInt = 0)).mp c8
          unfold bX9_greatestTable_73
          have m1 := ((tA rfl (by decide : (1 : Int32).toInt = 1) (by omega) (by omega)) : (s.2 + 1).toInt = (s.2.toInt + 1))
          have mm : (2147483648 - (s.2 + 1).toInt).toNat < (2147483648 - s.2.toInt).toNat := by omega
          have pp : (0 ≤ (s.1).toInt ∧ (s.1).toInt ≤ 3) ∧ (0 ≤ (s.2 + 1).toInt ∧ (s.2 + 1).toInt ≤ 2147483647) := ⟨(by show (0 ≤ (s.1).toInt ∧ (s.1).toInt ≤ 3); omega), (by show (0 ≤ (s.2 + 1).toInt ∧ (s.2 + 1).toInt ≤ 2147483647); have q := ((tA rfl (by decide : (1 : Int32).toInt = 1) (by omega) (by omega)) : (s.2 + 1).toInt = (s.2.toInt + 1)); omega)⟩
          exact t_ret ⟨pp, mm⟩
        · have c8i := mt (iEQ (a := (0 : Int32)) (b := (0 : Int32)) (by decide : (0 : Int32).toInt = 0) (by decide : (0 : Int32).toInt = 0)).mpr c8
          omega
      · have c7i := mt (iLE (a := r4) (b := r6) rfl rfl).mpr c7
        unfold bX9_greatestTable_61
        refine t_ite (fun c9 => ?_) (fun c9 => ?_)
        · have c9i := (iEQ (a := (1 : Int32)) (b := (0 : Int32)) (by decide : (1 : Int32).toInt = 1) (by decide : (0 : Int32).toInt = 0)).mp c9
          omega
        · have c9i := mt (iEQ (a := (1 : Int32)) (b := (0 : Int32)) (by decide : (1 : Int32).toInt = 1) (by decide : (0 : Int32).toInt = 0)).mpr c9
          unfold bX9_greatestTable_73
          have m1 := ((tA rfl (by decide : (1 : Int32).toInt = 1) (by omega) (by omega)) : (s.2 + 1).toInt = (s.2.toInt + 1))
          have mm : (2147483648 - (s.2 + 1).toInt).toNat < (2147483648 - s.2.toInt).toNat := by omega
          have pp : (0 ≤ (s.2).toInt ∧ (s.2).toInt ≤ 3) ∧ (0 ≤ (s.2 + 1).toInt ∧ (s.2 + 1).toInt ≤ 2147483647) := ⟨(by show (0 ≤ (s.2).toInt ∧ (s.2).toInt ≤ 3); omega), (by show (0 ≤ (s.2 + 1).toInt ∧ (s.2 + 1).toInt ≤ 2147483647); have q := ((tA rfl (by decide : (1 : Int32).toInt = 1) (by omega) (by omega)) : (s.2 + 1).toInt = (s.2.toInt + 1)); omega)⟩
          exact t_ret ⟨pp, mm⟩
set_option maxRecDepth 100000 in
set_option maxHeartbeats 1000000 in
theorem tfX9_greatestTable {I0 : gM} (v1 : Int32) (I : gM) (hM : MI false I0 I) : T (fX9_greatestTable v1 I) (fun r => (0 ≤ r.toInt ∧ r.toInt ≤ 3)) := by
  unfold fX9_greatestTable
  refine t_bindE (tlX9_greatestTable_4 v1 I hM ((0 : Int32), (1 : Int32)) ⟨(by show (0 ≤ ((0 : Int32)).toInt ∧ ((0 : Int32)).toInt ≤ 3); decide), (by show (0 ≤ ((1 : Int32)).toInt ∧ ((1 : Int32)).toInt ≤ 2147483647); decide)⟩) (fun w7 ew7 pw7 => ?_)
  have bw7_0 : (0 ≤ w7.toInt ∧ w7.toInt ≤ 3) := pw7
  exact t_ret (by show 0 ≤ (w7).toInt ∧ (w7).toInt ≤ 3; omega)
set_option maxRecDepth 100000 in
set_option maxHeartbeats 1000000 in
theorem tlX9_notGiven_4 {I0 : gM} (I : gM) (hM : MI false I0 I) (s : (Int32 × Int32)) (hP : (0 ≤ (s.2).toInt ∧ (s.2).toInt ≤ 2147483647)) : T (lX9_notGiven_4 I s) (fun r : Int32 => True) := by
  unfold lX9_notGiven_4
  refine t_it (P := fun s : (Int32 × Int32) => (0 ≤ (s.2).toInt ∧ (s.2).toInt ≤ 2147483647)) (μ := fun s : (Int32 × Int32) => (2147483648 - s.2.toInt).toNat) (fun s p => ?_) hP
  have b1 : (0 ≤ (s.2).toInt ∧ (s.2).toInt ≤ 2147483647) := p
  have q1 := hM.at (k := 62) (j := 17) (lo := 0) (hi := 4) rfl
  refine t_ite (fun c2 => ?_) (fun c2 => ?_)
  · have c2i := (iLE (a := I 62 17) (b := s.2) rfl rfl).mp c2
    exact t_ret (show True from trivial)
  · have c2i := mt (iLE (a := I 62 17) (b := s.2) rfl rfl).mpr c2
    refine t_bindE (tfX9_isUsed s.2 I hM) (fun r1 er1 pr1 => ?_)
    have br1_0 : (0 ≤ r1.toInt ∧ r1.toInt ≤ 1) := pr1
    refine t_ite (fun c3 => ?_) (fun c3 => ?_)
    · have c3i := (iEQ (a := r1) (b := (0 : Int32)) rfl (by decide : (0 : Int32).toInt = 0)).mp c3
      unfold bX9_notGiven_39
      have m1 := ((tA rfl (by decide : (1 : Int32).toInt = 1) (by omega) (by omega)) : (s.2 + 1).toInt = (s.2.toInt + 1))
      have mm : (2147483648 - (s.2 + 1).toInt).toNat < (2147483648 - s.2.toInt).toNat := by omega
      have pp : (0 ≤ (s.2 + 1).toInt ∧ (s.2 + 1).toInt ≤ 2147483647) := (by show (0 ≤ (s.2 + 1).toInt ∧ (s.2 + 1).toInt ≤ 2147483647); have q := ((tA rfl (by decide : (1 : Int32).toInt = 1) (by omega) (by omega)) : (s.2 + 1).toInt = (s.2.toInt + 1)); omega)
      exact t_ret ⟨pp, mm⟩
    · have c3i := mt (iEQ (a := r1) (b := (0 : Int32)) rfl (by decide : (0 : Int32).toInt = 0)).mpr c3
      refine t_bindE (tfX9_many s.2 I hM (by omega)) (fun r2 er2 pr2 => ?_)
      obtain ⟨br2_0, xr2_0⟩ := (show (0 ≤ r2.toInt ∧ r2.toInt ≤ 12) ∧ (r2.toInt = (I 70 (2 + s.2.toInt).toNat).toInt) from pr2)
      refine t_bindE (tfX9_givenBy s.2 I hM (by omega)) (fun r3 er3 pr3 => ?_)
      refine t_bindE (tfX9_bits r3) (fun r4 er4 pr4 => ?_)
      unfold bX9_notGiven_39
      have m1 := ((tA rfl (by decide : (1 : Int32).toInt = 1) (by omega) (by omega)) : (s.2 + 1).toInt = (s.2.toInt + 1))
      have mm : (2147483648 - (s.2 + 1).toInt).toNat < (2147483648 - s.2.toInt).toNat := by omega
      have pp : (0 ≤ (s.2 + 1).toInt ∧ (s.2 + 1).toInt ≤ 2147483647) := (by show (0 ≤ (s.2 + 1).toInt ∧ (s.2 + 1).toInt ≤ 2147483647); have q := ((tA rfl (by decide : (1 : Int32).toInt = 1) (by omega) (by omega)) : (s.2 + 1).toInt = (s.2.toInt + 1)); omega)
      exact t_ret ⟨pp, mm⟩
set_option maxRecDepth 100000 in
set_option maxHeartbeats 1000000 in
theorem tfX9_notGiven {I0 : gM} (I : gM) (hM : MI false I0 I) : T (fX9_notGiven I) (fun r => True) := by
  unfold fX9_notGiven
  refine t_bindE (tlX9_notGiven_4 I hM ((0 : Int32), (0 : Int32)) (by show (0 ≤ ((0 : Int32)).toInt ∧ ((0 : Int32)).toInt ≤ 2147483647); decide)) (fun w5 ew5 pw5 => ?_)
  exact t_ret trivial
set_option maxRecDepth 100000 in
set_option maxHeartbeats 1000000 in
theorem tfX9_count {I0 : gM} (v1 : Int32) (I : gM) (hM : MI false I0 I) : T (fX9_count v1 I) (fun r => ((-1000000) ≤ r.toInt ∧ r.toInt ≤ 400)) := by
  unfold fX9_count
  refine t_ite (fun c1 => ?_) (fun c1 => ?_)
  · have c1i := (iEQ (a := v1) (b := (0 : Int32)) rfl (by decide : (0 : Int32).toInt = 0)).mp c1
    have q2 := hM.at (k := 62) (j := 17) (lo := 0) (hi := 4) rfl
    exact t_ret (by show (-1000000) ≤ ((I 62 17)).toInt ∧ ((I 62 17)).toInt ≤ 400; omega)
  · have c1i := mt (iEQ (a := v1) (b := (0 : Int32)) rfl (by decide : (0 : Int32).toInt = 0)).mpr c1
    refine t_ite (fun c3 => ?_) (fun c3 => ?_)
    · have c3i := (iEQ (a := v1) (b := (1 : Int32)) rfl (by decide : (1 : Int32).toInt = 1)).mp c3
      have q4 := hM.at (k := 62) (j := 12) (lo := 0) (hi := 4) rfl
      exact t_ret (by show (-1000000) ≤ ((I 62 12)).toInt ∧ ((I 62 12)).toInt ≤ 400; omega)
    · have c3i := mt (iEQ (a := v1) (b := (1 : Int32)) rfl (by decide : (1 : Int32).toInt = 1)).mpr c3
      refine t_ite (fun c5 => ?_) (fun c5 => ?_)
      · have c5i := (iEQ (a := v1) (b := (2 : Int32)) rfl (by decide : (2 : Int32).toInt = 2)).mp c5
        have q6 := hM.at (k := 62) (j := 2) (lo := 0) (hi := 400) rfl
        exact t_ret (by show (-1000000) ≤ ((I 62 2)).toInt ∧ ((I 62 2)).toInt ≤ 400; omega)
      · have c5i := mt (iEQ (a := v1) (b := (2 : Int32)) rfl (by decide : (2 : Int32).toInt = 2)).mpr c5
        refine t_ite (fun c7 => ?_) (fun c7 => ?_)
        · have c7i := (iEQ (a := v1) (b := (3 : Int32)) rfl (by decide : (3 : Int32).toInt = 3)).mp c7
          refine t_rJ (lo := 0) (hi := 60) hM (by decide : (150 : Int32).toInt = 150) (by omega) (by omega) rfl (fun u1 eu1 bu1 => ?_)
          exact t_ret (by show (-1000000) ≤ (u1).toInt ∧ (u1).toInt ≤ 400; omega)
        · have c7i := mt (iEQ (a := v1) (b := (3 : Int32)) rfl (by decide : (3 : Int32).toInt = 3)).mpr c7
          refine t_ite (fun c8 => ?_) (fun c8 => ?_)
          · have c8i := (iEQ (a := v1) (b := (4 : Int32)) rfl (by decide : (4 : Int32).toInt = 4)).mp c8
            have q9 := hM.at (k := 62) (j := 29) (lo := 0) (hi := 40) rfl
            exact t_ret (by show (-1000000) ≤ ((I 62 29)).toInt ∧ ((I 62 29)).toInt ≤ 400; omega)
          · have c8i := mt (iEQ (a := v1) (b := (4 : Int32)) rfl (by decide : (4 : Int32).toInt = 4)).mpr c8
            exact t_ret (by show (-1000000) ≤ (((-1000000) : Int32)).toInt ∧ (((-1000000) : Int32)).toInt ≤ 400; decide)
end P_28c_safe9c
section P_29a_why9
/-! the reference: whether an act can be, and the act -/
theorem n_in (v a b : Int32) : (a.toInt ≤ v.toInt ∧ v.toInt ≤ b.toInt ∧ fX9_in v a b = some 1) ∨ (¬ (a.toInt ≤ v.toInt ∧ v.toInt ≤ b.toInt) ∧ fX9_in v a b = some 0) := by
  unfold fX9_in
  by_cases h : v < a
  · rw [if_pos h]
    have := (iLT rfl rfl).mp h
    exact Or.inr ⟨by omega, rfl⟩
  · rw [if_neg h]
    have h1 := mt (iLT (a := v) (b := a) rfl rfl).mpr h
    by_cases h2 : b < v
    · rw [if_pos h2]
      have := (iLT rfl rfl).mp h2
      exact Or.inr ⟨by omega, rfl⟩
    · rw [if_neg h2]
      have := mt (iLT (a := b) (b := v) rfl rfl).mpr h2
      exact Or.inl ⟨by omega, by omega, rfl⟩
theorem t0i : (0 : Int32).toInt = 0 := by decide
theorem t1i : (1 : Int32).toInt = 1 := by decide
theorem t99i : (99 : Int32).toInt = 99 := by decide
theorem n_isTable {I : gM} {n : Nat} (hn : n ≤ 4) (e : I 62 17 = nI n) (v : Int32) : (∃ t, t < n ∧ v = nI t ∧ fX9_isTable v I = some 1) ∨ ((∀ t, t < n → v ≠ nI t) ∧ fX9_isTable v I = some 0) := by
  have en : (I 62 17 - 1).toInt = (n : Int) - 1 := by rw [e]; exact tS (tnI (by omega)) t1i (by omega) (by omega)
  unfold fX9_isTable
  rcases n_in v 0 (I 62 17 - 1) with ⟨h1, h2, h3⟩ | ⟨h1, h3⟩
  · rw [h3, obs, bO_1, obs]
    rw [t0i] at h1
    exact Or.inl ⟨v.toInt.toNat, by omega, nI_self h1, rfl⟩
  · rw [h3, obs, bO_0, obs]
    refine Or.inr ⟨fun t ht hv => h1 ?_, rfl⟩
    rw [hv, tnI (by omega), t0i]; omega
theorem n_areTables {I : gM} {n : Nat} (hn : n ≤ 4) (e : I 62 17 = nI n) : fX9_areTables I = some (if n = 0 then 0 else 1) := by
  unfold fX9_areTables
  by_cases h : n = 0
  · subst h
    rw [if_pos (by rw [e]; decide), if_pos rfl]
  · rw [if_neg (by rw [e]; exact mt (nI_leI (a := n) (b := 0) (by omega) (by omega)).mp (by omega)), if_neg h]
/-- numbers for the letters of a table -/
def colOK (k w : Nat) (y : Int32) : Prop := (k < w → 0 ≤ y.toInt ∧ y.toInt ≤ 99) ∧ (w ≤ k → y = -1)
theorem colOK.a {k w : Nat} {y : Int32} (h : k < w) (c : 0 ≤ y.toInt ∧ y.toInt ≤ 99) : colOK k w y := ⟨fun _ => c, fun q => by omega⟩
theorem colOK.b {k w : Nat} {y : Int32} (h : w ≤ k) (c : y = -1) : colOK k w y := ⟨fun q => by omega, fun _ => c⟩
def rowOK (w : Nat) (x y z : Int32) : Prop := (0 ≤ x.toInt ∧ x.toInt ≤ 99) ∧ colOK 1 w y ∧ colOK 2 w z
theorem n_isRow {I : gM} {t w : Nat} (ht : t < 4) (hw : w ≤ 3) (e : I 72 t = nI w) (x y z : Int32) : (rowOK w x y z ∧ fX9_isRow (nI t) x y z I = some 1) ∨ (¬ rowOK w x y z ∧ fX9_isRow (nI t) x y z I = some 0) := by
  have last : ∀ b : Nat, b ≤ 1 → ((b = 1 ∧ colOK 2 w z) ∧ bX9_isRow_47 (nI t) z (nI b) I = some 1) ∨ (¬ (b = 1 ∧ colOK 2 w z) ∧ bX9_isRow_47 (nI t) z (nI b) I = some 0) := fun b hb => by
    unfold bX9_isRow_47
    rcases (by omega : b = 0 ∨ b = 1) with rfl | rfl
    · rw [if_pos (show nI 0 = 0 from rfl)]; exact Or.inr ⟨fun q => absurd q.1 (by omega), rfl⟩
    · rw [if_neg (show ¬ nI 1 = 0 from by decide), rI_n (by omega) (by omega), obs, e]
      by_cases c : w ≤ 2
      · rw [if_pos (show nI w ≤ 2 from (nI_leI (b := 2) (by omega) (by omega)).mpr c)]
        by_cases c2 : z = -1
        · rw [if_pos c2]; exact Or.inl ⟨⟨rfl, colOK.b c c2⟩, rfl⟩
        · rw [if_neg c2]; exact Or.inr ⟨fun q => c2 (q.2.2 c), rfl⟩
      · rw [if_neg (show ¬ nI w ≤ 2 from mt (nI_leI (a := w) (b := 2) (by omega) (by omega)).mp c)]
        rcases n_in z 0 99 with ⟨h1, h2, h3⟩ | ⟨h1, h3⟩
        · rw [h3, obs, if_neg (by decide)]
          rw [t0i] at h1
          rw [t99i] at h2
          exact Or.inl ⟨⟨rfl, colOK.a (by omega) ⟨h1, h2⟩⟩, rfl⟩
        · rw [h3, obs, if_pos rfl]
          rw [t0i, t99i] at h1
          exact Or.inr ⟨fun q => h1 (q.2.1 (by omega)), rfl⟩
  have fin : ∀ (b : Nat), b ≤ 1 → ((0 ≤ x.toInt ∧ x.toInt ≤ 99) ∧ colOK 1 w y ↔ b = 1) → (rowOK w x y z ∧ bX9_isRow_47 (nI t) z (nI b) I = some 1) ∨ (¬ rowOK w x y z ∧ bX9_isRow_47 (nI t) z (nI b) I = some 0) := fun b hb hx => by
    rcases last b hb with ⟨⟨p1, p2⟩, q⟩ | ⟨p, q⟩
    · obtain ⟨r1, r2⟩ := hx.mpr p1
      exact Or.inl ⟨⟨r1, r2, p2⟩, q⟩
    · exact Or.inr ⟨fun r => p ⟨hx.mp ⟨r.1, r.2.1⟩, r.2.2⟩, q⟩
  unfold fX9_isRow
  rcases n_in x 0 99 with ⟨h1, h2, h3⟩ | ⟨h1, h3⟩
  · rw [t0i] at h1
    rw [t99i] at h2
    rw [h3, obs, if_neg (by decide), rI_n (by omega) (by omega), obs, e]
    by_cases c : w ≤ 1
    · rw [if_pos (show nI w ≤ 1 from (nI_leI (b := 1) (by omega) (by omega)).mpr c)]
      by_cases c2 : y = -1
      · rw [if_pos c2]
        exact fin 1 (by omega) ⟨fun _ => rfl, fun _ => ⟨⟨h1, h2⟩, colOK.b c c2⟩⟩
      · rw [if_neg c2]
        exact fin 0 (by omega) ⟨fun q => absurd (q.2.2 c) c2, fun q => absurd q (by omega)⟩
    · rw [if_neg (show ¬ nI w ≤ 1 from mt (nI_leI (a := w) (b := 1) (by omega) (by omega)).mp c)]
      rcases n_in y 0 99 with ⟨g1, g2, g3⟩ | ⟨g1, g3⟩
      · rw [g3, obs, if_neg (by decide)]
        rw [t0i] at g1
        rw [t99i] at g2
        exact fin 1 (by omega) ⟨fun _ => rfl, fun _ => ⟨⟨h1, h2⟩, colOK.a (by omega) ⟨g1, g2⟩⟩⟩
      · rw [g3, obs, if_pos rfl]
        rw [t0i, t99i] at g1
        exact fin 0 (by omega) ⟨fun q => absurd (q.2.1 (by omega)) g1, fun q => absurd q (by omega)⟩
  · rw [t0i, t99i] at h1
    rw [h3, obs, if_pos rfl]
    exact fin 0 (by omega) ⟨fun q => absurd q.1 h1, fun q => absurd q (by omega)⟩
theorem n_whyPut {I : gM} {n t w m : Nat} (hn : n ≤ 4) (en : I 62 17 = nI n) (ht : t < n) (hw : w ≤ 3) (ew : I 72 t = nI w) (hm : m ≤ 12) (em : I 70 (2 + t) = nI m) (x y z : Int32) : (¬ rowOK w x y z ∧ fX9_whyPut (nI t) x y z I = some 1) ∨ (rowOK w x y z ∧ fX9_hasRow (nI t) x y z I = some 1 ∧ fX9_whyPut (nI t) x y z I = some 2) ∨ (rowOK w x y z ∧ fX9_hasRow (nI t) x y z I = some 0 ∧ m = 12 ∧ fX9_whyPut (nI t) x y z I = some 3) ∨ (rowOK w x y z ∧ fX9_hasRow (nI t) x y z I = some 0 ∧ m < 12 ∧ fX9_whyPut (nI t) x y z I = some (-1)) := by
  have it : fX9_isTable (nI t) I = some 1 := by
    rcases n_isTable hn en (nI t) with ⟨_, _, _, h⟩ | ⟨h, _⟩
    · exact h
    · exact absurd rfl (h t ht)
  obtain ⟨i, _, hr⟩ := n_hasRow (t := t) (by omega) hm em x y z
  unfold fX9_whyPut
  rw [it, obs, if_neg (by decide)]
  rcases n_isRow (t := t) (by omega) hw ew x y z with ⟨h, e⟩ | ⟨h, e⟩
  · rw [e, obs, if_neg (by decide), hr]
    by_cases c : i < m ∧ cm9 (I 70) t i x y z = 0
    · rw [if_pos c, obs, if_neg (by decide)]; exact Or.inr (Or.inl ⟨h, rfl, rfl⟩)
    · rw [if_neg c, obs, if_pos rfl, n_many (by omega), obs, em]
      by_cases c2 : m = 12
      · rw [if_pos (by rw [c2]; rfl)]; exact Or.inr (Or.inr (Or.inl ⟨h, rfl, c2, rfl⟩))
      · rw [if_neg (show ¬ nI m = (12 : Int32) from fun q => c2 (nI_inj (b := 12) q (by omega) (by omega)))]; exact Or.inr (Or.inr (Or.inr ⟨h, rfl, by omega, rfl⟩))
  · rw [e, obs, if_pos rfl]; exact Or.inl ⟨h, rfl⟩
theorem n_whyTake {I : gM} {n t w m : Nat} (hn : n ≤ 4) (en : I 62 17 = nI n) (ht : t < n) (hw : w ≤ 3) (ew : I 72 t = nI w) (hm : m ≤ 12) (em : I 70 (2 + t) = nI m) (x y z : Int32) : (¬ rowOK w x y z ∧ fX9_whyTake (nI t) x y z I = some 1) ∨ (rowOK w x y z ∧ fX9_hasRow (nI t) x y z I = some 0 ∧ fX9_whyTake (nI t) x y z I = some 2) ∨ (rowOK w x y z ∧ fX9_hasRow (nI t) x y z I = some 1 ∧ fX9_whyTake (nI t) x y z I = some (-1)) := by
  have it : fX9_isTable (nI t) I = some 1 := by
    rcases n_isTable hn en (nI t) with ⟨_, _, _, h⟩ | ⟨h, _⟩
    · exact h
    · exact absurd rfl (h t ht)
  obtain ⟨i, _, hr⟩ := n_hasRow (t := t) (by omega) hm em x y z
  unfold fX9_whyTake
  rw [it, obs, if_neg (by decide)]
  rcases n_isRow (t := t) (by omega) hw ew x y z with ⟨h, e⟩ | ⟨h, e⟩
  · rw [e, obs, if_neg (by decide), hr]
    by_cases c : i < m ∧ cm9 (I 70) t i x y z = 0
    · rw [if_pos c, obs, if_neg (by decide)]; exact Or.inr (Or.inr ⟨h, rfl, rfl⟩)
    · rw [if_neg c, obs, if_pos rfl]; exact Or.inr (Or.inl ⟨h, rfl, rfl⟩)
  · rw [e, obs, if_pos rfl]; exact Or.inl ⟨h, rfl⟩
/-- what an act that can be does to the row of numbers -/
def Act9 (n : Nat) (wd w : Nat → Int32) (s a x y z : Int32) (w' : Nat → Int32) : Prop :=
  (s = 0 ∧ ∃ t m i, t < n ∧ a = nI t ∧ m ≤ 11 ∧ w (2 + t) = nI m ∧ rowOK (wd t).toInt.toNat x y z ∧ cl9 w t m x y z i ∧ ¬ (i < m ∧ cm9 w t i x y z = 0) ∧ w' = insW w t m i x y z) ∨
  (s = 1 ∧ ∃ t m i, t < n ∧ a = nI t ∧ m ≤ 12 ∧ w (2 + t) = nI m ∧ rowOK (wd t).toInt.toNat x y z ∧ cl9 w t m x y z i ∧ i < m ∧ cm9 w t i x y z = 0 ∧ w' = delW w t m i) ∨
  (s = 2 ∧ ∃ t, t < n ∧ a = nI t ∧ w 0 ≠ 1 <<< (nI t &&& 31) ∧ w' = fun j => if j = 0 then w 0 ^^^ (1 <<< (nI t &&& 31)) else w j) ∨
  (¬ s = 0 ∧ ¬ s = 1 ∧ ¬ s = 2 ∧ ∃ o, o < 24 ∧ a = nI o ∧ w 1 ≠ a ∧ 0 < n ∧ w' = fun j => if j = 1 then a else w j)
theorem rgNow_1 : rgNow 1 = (0, 23) := rfl
theorem rg70 {j : Nat} : rg 70 j = rgNow j := rfl
theorem rgN_m {t : Nat} (ht : t < 4) : rgNow (2 + t) = (0, 12) := by
  unfold rgNow
  rw [if_neg (by omega), if_pos (by omega)]
theorem rgN_r {j : Nat} (h1 : 6 ≤ j) (h2 : j < 150) : rgNow j = (-1, 99) := by
  unfold rgNow
  rw [if_neg (by omega), if_neg (by omega), if_pos (by omega)]
theorem rgN_t {j : Nat} (h : j = 0 ∨ 151 ≤ j) : rgNow j = top := by
  unfold rgNow
  rw [if_neg (by omega), if_neg (by omega), if_neg (by omega), if_neg (by omega)]
/-- the ranges of a row of numbers -/
def rW (w : Nat → Int32) : Prop := ∀ j, (rgNow j).1 ≤ (w j).toInt ∧ (w j).toInt ≤ (rgNow j).2
theorem rowOK.rg {w : Nat} {x y z : Int32} (h : rowOK w x y z) : (-1 ≤ x.toInt ∧ x.toInt ≤ 99) ∧ (-1 ≤ y.toInt ∧ y.toInt ≤ 99) ∧ (-1 ≤ z.toInt ∧ z.toInt ≤ 99) := by
  obtain ⟨h1, h2, h3⟩ := h
  have m1 : ((-1) : Int32).toInt = -1 := by decide
  have col : ∀ {k : Nat} {y : Int32}, colOK k w y → -1 ≤ y.toInt ∧ y.toInt ≤ 99 := fun {k y} h => by
    by_cases c : k < w
    · have := h.1 c; omega
    · rw [h.2 (by omega), m1]; omega
  exact ⟨by omega, col h2, col h3⟩
theorem rW.ins {w : Nat → Int32} (h : rW w) {t m i : Nat} (ht : t < 4) (hm : m ≤ 11) (hi : i ≤ m) {x y z : Int32} (hr : (-1 ≤ x.toInt ∧ x.toInt ≤ 99) ∧ (-1 ≤ y.toInt ∧ y.toInt ≤ 99) ∧ (-1 ≤ z.toInt ∧ z.toInt ≤ 99)) : rW (insW w t m i x y z) := by
  obtain ⟨hx, hy, hz⟩ := hr
  intro j
  unfold insW
  by_cases c1 : j = 2 + t
  · rw [if_pos c1, c1, rgN_m ht, tnI (by omega)]
    show (0 : Int) ≤ ((m + 1 : Nat) : Int) ∧ ((m + 1 : Nat) : Int) ≤ 12
    omega
  rw [if_neg c1]
  by_cases c2 : j = 6 + 3 * (12 * t + i)
  · rw [if_pos c2, rgN_r (by omega) (by omega)]; exact hx
  rw [if_neg c2]
  by_cases c3 : j = 6 + 3 * (12 * t + i) + 1
  · rw [if_pos c3, rgN_r (by omega) (by omega)]; exact hy
  rw [if_neg c3]
  by_cases c4 : j = 6 + 3 * (12 * t + i) + 2
  · rw [if_pos c4, rgN_r (by omega) (by omega)]; exact hz
  rw [if_neg c4]
  by_cases c5 : 6 + 3 * (12 * t + i) + 3 ≤ j ∧ j < 6 + 3 * (12 * t + m) + 3
  · rw [if_pos c5, rgN_r (by omega) (by omega)]
    have := h (j - 3)
    rw [rgN_r (by omega) (by omega)] at this; exact this
  · rw [if_neg c5]; exact h j
theorem rW.del {w : Nat → Int32} (h : rW w) {t m i : Nat} (ht : t < 4) (hm : m ≤ 12) : rW (delW w t m i) := by
  intro j
  unfold delW
  by_cases c1 : j = 2 + t
  · rw [if_pos c1, c1, rgN_m ht, tnI (by omega)]
    show (0 : Int) ≤ ((m - 1 : Nat) : Int) ∧ ((m - 1 : Nat) : Int) ≤ 12
    omega
  rw [if_neg c1]
  by_cases c5 : 6 + 3 * (12 * t + i) ≤ j ∧ j < 6 + 3 * (12 * t + (m - 1))
  · rw [if_pos c5, rgN_r (by omega) (by omega)]
    have := h (j + 3)
    rw [rgN_r (by omega) (by omega)] at this; exact this
  · rw [if_neg c5]; exact h j
theorem mi_rW {I0 I : gM} (h : MI false I0 I) : rW (I 70) := fun j => h.1 70 j
theorem MI.now {I0 I r : gM} (h : MI false I0 I) (he : ∀ k, k ≠ 70 → r k = I k) (hw : rW (r 70)) : MI false I0 r := h.one rfl he hw
theorem act_rW {n : Nat} {wd w w' : Nat → Int32} {s a x y z : Int32} (h : Act9 n wd w s a x y z w') (hn : n ≤ 4) (hw : rW w) : rW w' := by
  rcases h with ⟨_, t, m, i, h1, h2, h3, h4, h5, h6, h7, rfl⟩ | ⟨_, t, m, i, h1, h2, h3, h4, h5, h6, h7, h8, rfl⟩ | ⟨_, t, h1, h2, h3, rfl⟩ | ⟨_, _, _, o, h1, h2, h3, h4, rfl⟩
  · exact hw.ins (by omega) h3 h6.1 h5.rg
  · exact hw.del (by omega) h3
  · intro j
    dsimp only
    by_cases c : j = 0
    · rw [if_pos c, c]; exact tTop _
    · rw [if_neg c]; exact hw j
  · intro j
    dsimp only
    by_cases c : j = 1
    · rw [if_pos c, c, h2, rgNow_1, tnI (by omega)]
      show (0 : Int) ≤ (o : Int) ∧ (o : Int) ≤ 23
      omega
    · rw [if_neg c]; exact hw j
/-- an act that is not refused -/
theorem n_can {I0 I : gM} (hM : MI false I0 I) {n : Nat} (hn : n ≤ 4) (en : I 62 17 = nI n) {s a x y z : Int32} (e : fX9_whyNot s a x y z I = some (-1)) : ∃ w', Act9 n (I 72) (I 70) s a x y z w' := by
  have tab : ∀ t, t < n → ∃ m w, m ≤ 12 ∧ I 70 (2 + t) = nI m ∧ w ≤ 3 ∧ I 72 t = nI w := fun t ht => by
    obtain ⟨m, m1, m2⟩ := hM.n (k := 70) (j := 2 + t) (hi := 12) (rgN_m (by omega))
    obtain ⟨w, w1, w2⟩ := hM.n (k := 72) (j := t) (hi := 3) rfl
    exact ⟨m, w, m1, m2, w1, w2⟩
  unfold fX9_whyNot at e
  rcases oi e with ⟨c1, e⟩ | ⟨c1, e⟩
  · obtain ⟨r, e1, e2⟩ := ob e
    obtain rfl := Option.some.inj e2
    rcases n_isTable hn en a with ⟨t, t1, t2, t3⟩ | ⟨t1, t3⟩
    · subst t2
      obtain ⟨m, w, m1, m2, w1, w2⟩ := tab t t1
      obtain ⟨i, i1, i2⟩ := n_hasRow (t := t) (by omega) m1 m2 x y z
      rcases n_whyPut hn en t1 w1 w2 m1 m2 x y z with ⟨_, q⟩ | ⟨_, _, q⟩ | ⟨_, _, _, q⟩ | ⟨q1, q2, q3, q⟩
      · rw [e1] at q; exact absurd (Option.some.inj q) (by decide)
      · rw [e1] at q; exact absurd (Option.some.inj q) (by decide)
      · rw [e1] at q; exact absurd (Option.some.inj q) (by decide)
      · refine ⟨_, Or.inl ⟨c1, t, m, i, t1, rfl, by omega, m2, by rw [w2, nIt (by omega)]; exact q1, i1, fun c => ?_, rfl⟩⟩
        rw [i2, if_pos c] at q2
        exact absurd (Option.some.inj q2) (by decide)
    · unfold fX9_whyPut at e1
      rw [t3, obs, if_pos rfl] at e1
      exact absurd (Option.some.inj e1) (by decide)
  rcases oi e with ⟨c2, e⟩ | ⟨c2, e⟩
  · obtain ⟨r, e1, e2⟩ := ob e
    obtain rfl := Option.some.inj e2
    rcases n_isTable hn en a with ⟨t, t1, t2, t3⟩ | ⟨t1, t3⟩
    · subst t2
      obtain ⟨m, w, m1, m2, w1, w2⟩ := tab t t1
      obtain ⟨i, i1, i2⟩ := n_hasRow (t := t) (by omega) m1 m2 x y z
      rcases n_whyTake hn en t1 w1 w2 m1 m2 x y z with ⟨_, q⟩ | ⟨_, _, q⟩ | ⟨q1, q2, q⟩
      · rw [e1] at q; exact absurd (Option.some.inj q) (by decide)
      · rw [e1] at q; exact absurd (Option.some.inj q) (by decide)
      · by_cases c : i < m ∧ cm9 (I 70) t i x y z = 0
        · exact ⟨_, Or.inr (Or.inl ⟨c2, t, m, i, t1, rfl, m1, m2, by rw [w2, nIt (by omega)]; exact q1, i1, c.1, c.2, rfl⟩)⟩
        · rw [i2, if_neg c] at q2
          exact absurd (Option.some.inj q2) (by decide)
    · unfold fX9_whyTake at e1
      rw [t3, obs, if_pos rfl] at e1
      exact absurd (Option.some.inj e1) (by decide)
  rcases oi e with ⟨c3, e⟩ | ⟨c3, e⟩
  · rcases n_isTable hn en a with ⟨t, t1, t2, t3⟩ | ⟨t1, t3⟩
    · rw [t3, obs, if_neg (by decide), L0, rI_n (by omega) (by omega), obs] at e
      rcases oi e with ⟨c4, e⟩ | ⟨c4, e⟩
      · exact absurd (Option.some.inj e) (by decide)
      · exact ⟨_, Or.inr (Or.inr (Or.inl ⟨c3, t, t1, t2, by rw [← t2]; exact c4, rfl⟩))⟩
    · rw [t3, obs, if_pos rfl] at e
      exact absurd (Option.some.inj e) (by decide)
  · rw [n_areTables hn en, obs] at e
    by_cases z0 : n = 0
    · rw [if_pos z0, if_pos rfl] at e
      exact absurd (Option.some.inj e) (by decide)
    · rw [if_neg z0, if_neg (by decide)] at e
      rcases n_in a 0 23 with ⟨h1, h2, h3⟩ | ⟨h1, h3⟩
      · rw [h3, obs, if_neg (by decide), L1, rI_n (by omega) (by omega), obs] at e
        rw [t0i] at h1
        have : (23 : Int32).toInt = 23 := by decide
        rcases oi e with ⟨c4, e⟩ | ⟨c4, e⟩
        · exact absurd (Option.some.inj e) (by decide)
        · exact ⟨_, Or.inr (Or.inr (Or.inr ⟨c1, c2, c3, a.toInt.toNat, by omega, nI_self h1, c4, by omega, rfl⟩))⟩
      · rw [h3, obs, if_pos rfl] at e
        exact absurd (Option.some.inj e) (by decide)
/-- an act that can be is done -/
theorem n_doNow {I0 I : gM} (hM : MI false I0 I) {n : Nat} (hn : n ≤ 4) (en : I 62 17 = nI n) {s a x y z : Int32} {w' : Nat → Int32} (h : Act9 n (I 72) (I 70) s a x y z w') : ∃ v r, fX9_doNow s a x y z I = some (v, r) ∧ MI false I0 r ∧ (∀ k, k ≠ 70 → r k = I k) ∧ r 70 = w' ∧ (s = 0 ∨ s = 1 → ∃ t, t < n ∧ a = nI t ∧ v = w' (2 + t)) ∧ (s = 2 → ∃ t, t < n ∧ a = nI t ∧ ((hs (w' 0) t ∧ v = 1) ∨ (¬ hs (w' 0) t ∧ v = 0))) ∧ (¬ s = 0 → ¬ s = 1 → ¬ s = 2 → v = I 70 1) := by
  have hr := act_rW h hn (mi_rW hM)
  unfold fX9_doNow
  rcases h with ⟨c, t, m, i, h1, h2, h3, h4, h5, h6, h7, rfl⟩ | ⟨c, t, m, i, h1, h2, h3, h4, h5, h6, h7, h8, rfl⟩ | ⟨c, t, h1, h2, h3, rfl⟩ | ⟨c1, c2, c3, o, h1, h2, h3, h4, rfl⟩
  · subst c h2
    obtain ⟨i', r, q1, q2, q3, q4⟩ := n_putsNow (t := t) (by omega) h3 h4 x y z
    obtain rfl : i' = i := by
      obtain ⟨a1, a2, a3⟩ := q1
      obtain ⟨b1, b2, b3⟩ := h6
      rcases (by omega : i' < i ∨ i' = i ∨ i < i') with u | u | u
      · exact absurd (a3 (by omega)) (b2 i' u)
      · exact u
      · exact absurd (b3 (by omega)) (a2 i u)
    rw [if_pos rfl, q2, obs]
    refine ⟨_, _, rfl, hM.now q3 (show rW (r 70) from by rw [q4]; exact hr), q3, q4, fun _ => ⟨t, h1, rfl, ?_⟩, fun q => absurd q (by decide), fun q => absurd rfl q⟩
    show nI (m + 1) = insW (I 70) t m i' x y z (2 + t)
    unfold insW
    rw [if_pos rfl]
  · subst c h2
    obtain ⟨i', e1, q1⟩ := n_countLess (t := t) (by omega) h3 h4 x y z
    obtain rfl : i' = i := by
      obtain ⟨a1, a2, a3⟩ := q1
      obtain ⟨b1, b2, b3⟩ := h6
      rcases (by omega : i' < i ∨ i' = i ∨ i < i') with u | u | u
      · exact absurd (a3 (by omega)) (b2 i' u)
      · exact u
      · exact absurd (b3 (by omega)) (a2 i u)
    obtain ⟨r, q2, q3, q4⟩ := n_takesNow (t := t) (by omega) h3 h4 e1 h7
    rw [if_neg (by decide), if_pos rfl, q2, obs]
    refine ⟨_, _, rfl, hM.now q3 (show rW (r 70) from by rw [q4]; exact hr), q3, q4, fun _ => ⟨t, h1, rfl, ?_⟩, fun q => absurd q (by decide), fun _ q => absurd rfl q⟩
    show nI (m - 1) = delW (I 70) t m i' (2 + t)
    unfold delW
    rw [if_pos rfl]
  · subst c h2
    rw [if_neg (by decide), if_neg (by decide), if_pos rfl, show rI 331 (I 70) 0 = some (I 70 0) from rI_n (a := 0) (by omega) (by omega), obs, show wI I 70 331 0 (I 70 0 ^^^ (1 <<< (nI t &&& 31))) = some _ from wI_n (a := 0) (by omega) (by omega), obs]
    have f1 : ∀ k, k ≠ 70 → g_up I 70 0 (I 70 0 ^^^ (1 <<< (nI t &&& 31))) k = I k := fun k hk => g_up_row hk
    have f2 : g_up I 70 0 (I 70 0 ^^^ (1 <<< (nI t &&& 31))) 70 = fun j => if j = 0 then I 70 0 ^^^ (1 <<< (nI t &&& 31)) else I 70 j := by
      funext j; rw [gu_in]
    generalize g_up I 70 0 (I 70 0 ^^^ (1 <<< (nI t &&& 31))) = r at *
    have f3 : r 70 0 = I 70 0 ^^^ (1 <<< (nI t &&& 31)) := by rw [f2]; exact if_pos rfl
    have Mr : MI false I0 r := hM.now f1 (by rw [f2]; exact hr)
    by_cases u : hs (r 70 0) t
    · rw [n_isUsed1 u, obs, if_neg (by decide)]
      refine ⟨_, _, rfl, Mr, f1, f2, fun q => absurd q (by decide), fun _ => ⟨t, h1, rfl, Or.inl ⟨?_, rfl⟩⟩, fun _ _ q => absurd rfl q⟩
      rw [f3] at u; exact u
    · rw [n_isUsed0 u, obs, if_pos rfl]
      refine ⟨_, _, rfl, Mr, f1, f2, fun q => absurd q (by decide), fun _ => ⟨t, h1, rfl, Or.inr ⟨?_, rfl⟩⟩, fun _ _ q => absurd rfl q⟩
      rw [f3] at u; exact u
  · rw [if_neg c1, if_neg c2, if_neg c3, show rI 331 (I 70) 1 = some (I 70 1) from rI_n (a := 1) (by omega) (by omega), obs, show wI I 70 331 1 a = some _ from wI_n (a := 1) (by omega) (by omega), obs]
    have f1 : ∀ k, k ≠ 70 → g_up I 70 1 a k = I k := fun k hk => g_up_row hk
    have f2 : g_up I 70 1 a 70 = fun j => if j = 1 then a else I 70 j := by funext j; rw [gu_in]
    refine ⟨_, _, rfl, hM.now f1 (by rw [f2]; exact hr), f1, f2, fun q => (q.elim (fun q => absurd q c1) (fun q => absurd q c2)), fun q => absurd q c3, fun _ _ _ => rfl⟩
end P_29a_why9
section P_29b_copy9
/-! the reference: copies of the state -/
theorem rg81 (A k : Nat) (h : k < 331) : rg 81 (331 * A + k) = rgNow k := by
  show rgNow ((331 * A + k) % 331) = rgNow k
  rw [show (331 * A + k) % 331 = k by omega]
theorem MI.up' {b : Bool} {I0 I : gM} (h : MI b I0 I) {k j : Nat} {v : Int32} (hk : Nat.ble 62 k = !b) (hv : (rg k j).1 ≤ v.toInt ∧ v.toInt ≤ (rg k j).2) : MI b I0 (g_up I k j v) := h.up hk (lo := (rg k j).1) (hi := (rg k j).2) rfl hv.1 hv.2
theorem a331 (c j : Nat) : (331 : Int32) * nI c + nI j = nI (331 * c + j) := by rw [L331, nI_mul, nI_add]
theorem n_lX9_keep_54 {I0 I : gM} (hM : MI false I0 I) {A : Nat} (hA : A ≤ 39) (e : I 62 29 = nI A) : T (lX9_keep_54 (nI 0, I)) (fun r => MI false I0 r ∧ (∀ a, r 81 a = if 331 * A ≤ a ∧ a < 331 * A + 331 then I 70 (a - (331 * A) + (0)) else I 81 a) ∧ ∀ k, k ≠ 81 → r k = I k) := by
  unfold lX9_keep_54
  refine t_it (P := fun s => ∃ k, s.1 = nI k ∧ k ≤ 331 ∧ MI false I0 s.2 ∧ (∀ a, s.2 81 a = if 331 * A ≤ a ∧ a < 331 * A + k then I 70 (a - (331 * A) + (0)) else I 81 a) ∧ ∀ k, k ≠ 81 → s.2 k = I k) (μ := fun s => 400 - s.1.toInt.toNat) (fun s p => ?_) ⟨0, rfl, by omega, hM, fun a => by rw [if_neg (by omega)], fun _ _ => rfl⟩
  obtain ⟨s1, s2⟩ := s
  obtain ⟨k, e1, h1, hM2, h2, h3⟩ := p
  dsimp only at e1 hM2 h2 h3
  subst e1
  dsimp only
  refine t_ite (fun c => ?_) (fun c => ?_)
  · have c := (nI_leI (a := 331) (by omega) (by omega)).mp c
    obtain rfl : k = 331 := by omega
    exact t_ret ⟨hM2, h2, h3⟩
  · have c := mt (nI_leI (a := 331) (b := k) (by omega) (by omega)).mpr c
    rw [h3 62 (by omega), e, a331]
    refine t_be (rI_n (a := k) (by omega) (by omega)) (t_be (wI_n (a := 331 * A + k) (by omega) (by omega)) ?_)
    refine t_nx ?_ (by show 400 - (nI k + 1).toInt.toNat < 400 - (nI k).toInt.toNat; rw [nI_1, nIt (by omega), nIt (by omega)]; omega)
    dsimp only
    have hv := hM2.1 70 (k)
    rw [show rg 70 k = rgNow k from rfl] at hv
    refine ⟨k + 1, nI_1 k, by omega, hM2.up (k := 81) (j := 331 * A + k) rfl (lo := (rgNow k).1) (hi := (rgNow k).2) (by rw [rg81 A k (by omega)]) hv.1 hv.2, fun a => ?_, fun q hq => ?_⟩
    · rw [gu_in]
      by_cases z : a = 331 * A + k
      · rw [if_pos z, if_pos (by omega), h3 70 (by omega), show a - (331 * A) + (0) = k by omega]
      · rw [if_neg z, h2]
        by_cases y : 331 * A ≤ a ∧ a < 331 * A + k
        · rw [if_pos y, if_pos (by omega)]
        · rw [if_neg y, if_neg (by omega)]
    · rw [g_up_row hq]; exact h3 q hq
theorem n_lX9_undo_21 {I0 I : gM} (hM : MI false I0 I) {A : Nat} (hA : A ≤ 39) (e : I 62 29 = nI A) : T (lX9_undo_21 (nI 0, I)) (fun r => MI false I0 r ∧ (∀ a, r 70 a = if 0 ≤ a ∧ a < 0 + 331 then I 81 (a - (0) + (331 * A)) else I 70 a) ∧ ∀ k, k ≠ 70 → r k = I k) := by
  unfold lX9_undo_21
  refine t_it (P := fun s => ∃ k, s.1 = nI k ∧ k ≤ 331 ∧ MI false I0 s.2 ∧ (∀ a, s.2 70 a = if 0 ≤ a ∧ a < 0 + k then I 81 (a - (0) + (331 * A)) else I 70 a) ∧ ∀ k, k ≠ 70 → s.2 k = I k) (μ := fun s => 400 - s.1.toInt.toNat) (fun s p => ?_) ⟨0, rfl, by omega, hM, fun a => by rw [if_neg (by omega)], fun _ _ => rfl⟩
  obtain ⟨s1, s2⟩ := s
  obtain ⟨k, e1, h1, hM2, h2, h3⟩ := p
  dsimp only at e1 hM2 h2 h3
  subst e1
  dsimp only
  refine t_ite (fun c => ?_) (fun c => ?_)
  · have c := (nI_leI (a := 331) (by omega) (by omega)).mp c
    obtain rfl : k = 331 := by omega
    exact t_ret ⟨hM2, h2, h3⟩
  · have c := mt (nI_leI (a := 331) (b := k) (by omega) (by omega)).mpr c
    rw [h3 62 (by omega), e, a331]
    refine t_be (rI_n (a := 331 * A + k) (by omega) (by omega)) (t_be (wI_n (a := k) (by omega) (by omega)) ?_)
    refine t_nx ?_ (by show 400 - (nI k + 1).toInt.toNat < 400 - (nI k).toInt.toNat; rw [nI_1, nIt (by omega), nIt (by omega)]; omega)
    dsimp only
    have hv := hM2.1 81 (331 * A + k)
    rw [rg81 A k (by omega)] at hv
    refine ⟨k + 1, nI_1 k, by omega, hM2.up (k := 70) (j := k) rfl (lo := (rgNow k).1) (hi := (rgNow k).2) (by rw [show rg 70 k = rgNow k from rfl]) hv.1 hv.2, fun a => ?_, fun q hq => ?_⟩
    · rw [gu_in]
      by_cases z : a = k
      · rw [if_pos z, if_pos (by omega), h3 81 (by omega), show a - (0) + (331 * A) = 331 * A + k by omega]
      · rw [if_neg z, h2]
        by_cases y : 0 ≤ a ∧ a < 0 + k
        · rw [if_pos y, if_pos (by omega)]
        · rw [if_neg y, if_neg (by omega)]
    · rw [g_up_row hq]; exact h3 q hq
theorem n_lX9_image_11 {I0 I : gM} (hM : MI false I0 I) : T (lX9_image_11 (nI 0, I)) (fun r => MI false I0 r ∧ (∀ a, r 89 a = if 0 ≤ a ∧ a < 0 + 331 then I 70 (a - (0) + (0)) else I 89 a) ∧ ∀ k, k ≠ 89 → r k = I k) := by
  unfold lX9_image_11
  refine t_it (P := fun s => ∃ k, s.1 = nI k ∧ k ≤ 331 ∧ MI false I0 s.2 ∧ (∀ a, s.2 89 a = if 0 ≤ a ∧ a < 0 + k then I 70 (a - (0) + (0)) else I 89 a) ∧ ∀ k, k ≠ 89 → s.2 k = I k) (μ := fun s => 400 - s.1.toInt.toNat) (fun s p => ?_) ⟨0, rfl, by omega, hM, fun a => by rw [if_neg (by omega)], fun _ _ => rfl⟩
  obtain ⟨s1, s2⟩ := s
  obtain ⟨k, e1, h1, hM2, h2, h3⟩ := p
  dsimp only at e1 hM2 h2 h3
  subst e1
  dsimp only
  refine t_ite (fun c => ?_) (fun c => ?_)
  · have c := (nI_leI (a := 331) (by omega) (by omega)).mp c
    obtain rfl : k = 331 := by omega
    exact t_ret ⟨hM2, h2, h3⟩
  · have c := mt (nI_leI (a := 331) (b := k) (by omega) (by omega)).mpr c
    refine t_be (rI_n (a := k) (by omega) (by omega)) (t_be (wI_n (a := k) (by omega) (by omega)) ?_)
    refine t_nx ?_ (by show 400 - (nI k + 1).toInt.toNat < 400 - (nI k).toInt.toNat; rw [nI_1, nIt (by omega), nIt (by omega)]; omega)
    dsimp only
    have hv := hM2.1 70 (k)
    rw [show rg 70 k = rgNow k from rfl] at hv
    refine ⟨k + 1, nI_1 k, by omega, hM2.up (k := 89) (j := k) rfl (lo := (rgNow k).1) (hi := (rgNow k).2) (by rw [show rg 89 k = rgNow k from rfl]) hv.1 hv.2, fun a => ?_, fun q hq => ?_⟩
    · rw [gu_in]
      by_cases z : a = k
      · rw [if_pos z, if_pos (by omega), h3 70 (by omega), show a - (0) + (0) = k by omega]
      · rw [if_neg z, h2]
        by_cases y : 0 ≤ a ∧ a < 0 + k
        · rw [if_pos y, if_pos (by omega)]
        · rw [if_neg y, if_neg (by omega)]
    · rw [g_up_row hq]; exact h3 q hq
theorem n_lX9_back_11 {I0 I : gM} (hM : MI false I0 I) : T (lX9_back_11 (nI 0, I)) (fun r => MI false I0 r ∧ (∀ a, r 70 a = if 0 ≤ a ∧ a < 0 + 331 then I 89 (a - (0) + (0)) else I 70 a) ∧ ∀ k, k ≠ 70 → r k = I k) := by
  unfold lX9_back_11
  refine t_it (P := fun s => ∃ k, s.1 = nI k ∧ k ≤ 331 ∧ MI false I0 s.2 ∧ (∀ a, s.2 70 a = if 0 ≤ a ∧ a < 0 + k then I 89 (a - (0) + (0)) else I 70 a) ∧ ∀ k, k ≠ 70 → s.2 k = I k) (μ := fun s => 400 - s.1.toInt.toNat) (fun s p => ?_) ⟨0, rfl, by omega, hM, fun a => by rw [if_neg (by omega)], fun _ _ => rfl⟩
  obtain ⟨s1, s2⟩ := s
  obtain ⟨k, e1, h1, hM2, h2, h3⟩ := p
  dsimp only at e1 hM2 h2 h3
  subst e1
  dsimp only
  refine t_ite (fun c => ?_) (fun c => ?_)
  · have c := (nI_leI (a := 331) (by omega) (by omega)).mp c
    obtain rfl : k = 331 := by omega
    exact t_ret ⟨hM2, h2, h3⟩
  · have c := mt (nI_leI (a := 331) (b := k) (by omega) (by omega)).mpr c
    refine t_be (rI_n (a := k) (by omega) (by omega)) (t_be (wI_n (a := k) (by omega) (by omega)) ?_)
    refine t_nx ?_ (by show 400 - (nI k + 1).toInt.toNat < 400 - (nI k).toInt.toNat; rw [nI_1, nIt (by omega), nIt (by omega)]; omega)
    dsimp only
    have hv := hM2.1 89 (k)
    rw [show rg 89 k = rgNow k from rfl] at hv
    refine ⟨k + 1, nI_1 k, by omega, hM2.up (k := 70) (j := k) rfl (lo := (rgNow k).1) (hi := (rgNow k).2) (by rw [show rg 70 k = rgNow k from rfl]) hv.1 hv.2, fun a => ?_, fun q hq => ?_⟩
    · rw [gu_in]
      by_cases z : a = k
      · rw [if_pos z, if_pos (by omega), h3 89 (by omega), show a - (0) + (0) = k by omega]
      · rw [if_neg z, h2]
        by_cases y : 0 ≤ a ∧ a < 0 + k
        · rw [if_pos y, if_pos (by omega)]
        · rw [if_neg y, if_neg (by omega)]
    · rw [g_up_row hq]; exact h3 q hq
theorem n_lX9_putAside_2 {I0 I : gM} (hM : MI false I0 I) : T (lX9_putAside_2 (nI 0, I)) (fun r => MI false I0 r ∧ (∀ a, r 88 a = if 0 ≤ a ∧ a < 0 + 150 then I 70 (a - (0) + (0)) else I 88 a) ∧ ∀ k, k ≠ 88 → r k = I k) := by
  unfold lX9_putAside_2
  refine t_it (P := fun s => ∃ k, s.1 = nI k ∧ k ≤ 150 ∧ MI false I0 s.2 ∧ (∀ a, s.2 88 a = if 0 ≤ a ∧ a < 0 + k then I 70 (a - (0) + (0)) else I 88 a) ∧ ∀ k, k ≠ 88 → s.2 k = I k) (μ := fun s => 400 - s.1.toInt.toNat) (fun s p => ?_) ⟨0, rfl, by omega, hM, fun a => by rw [if_neg (by omega)], fun _ _ => rfl⟩
  obtain ⟨s1, s2⟩ := s
  obtain ⟨k, e1, h1, hM2, h2, h3⟩ := p
  dsimp only at e1 hM2 h2 h3
  subst e1
  dsimp only
  refine t_ite (fun c => ?_) (fun c => ?_)
  · have c := (nI_leI (a := 150) (by omega) (by omega)).mp c
    obtain rfl : k = 150 := by omega
    exact t_ret ⟨hM2, h2, h3⟩
  · have c := mt (nI_leI (a := 150) (b := k) (by omega) (by omega)).mpr c
    refine t_be (rI_n (a := k) (by omega) (by omega)) (t_be (wI_n (a := k) (by omega) (by omega)) ?_)
    refine t_nx ?_ (by show 400 - (nI k + 1).toInt.toNat < 400 - (nI k).toInt.toNat; rw [nI_1, nIt (by omega), nIt (by omega)]; omega)
    dsimp only
    have hv := hM2.1 70 (k)
    rw [show rg 70 k = rgNow k from rfl] at hv
    refine ⟨k + 1, nI_1 k, by omega, hM2.up (k := 88) (j := k) rfl (lo := (rgNow k).1) (hi := (rgNow k).2) (by rw [show rg 88 k = rgNow k from rfl]) hv.1 hv.2, fun a => ?_, fun q hq => ?_⟩
    · rw [gu_in]
      by_cases z : a = k
      · rw [if_pos z, if_pos (by omega), h3 70 (by omega), show a - (0) + (0) = k by omega]
      · rw [if_neg z, h2]
        by_cases y : 0 ≤ a ∧ a < 0 + k
        · rw [if_pos y, if_pos (by omega)]
        · rw [if_neg y, if_neg (by omega)]
    · rw [g_up_row hq]; exact h3 q hq
theorem n_lX9_bringBack_2 {I0 I : gM} (hM : MI false I0 I) : T (lX9_bringBack_2 (nI 0, I)) (fun r => MI false I0 r ∧ (∀ a, r 70 a = if 0 ≤ a ∧ a < 0 + 150 then I 88 (a - (0) + (0)) else I 70 a) ∧ ∀ k, k ≠ 70 → r k = I k) := by
  unfold lX9_bringBack_2
  refine t_it (P := fun s => ∃ k, s.1 = nI k ∧ k ≤ 150 ∧ MI false I0 s.2 ∧ (∀ a, s.2 70 a = if 0 ≤ a ∧ a < 0 + k then I 88 (a - (0) + (0)) else I 70 a) ∧ ∀ k, k ≠ 70 → s.2 k = I k) (μ := fun s => 400 - s.1.toInt.toNat) (fun s p => ?_) ⟨0, rfl, by omega, hM, fun a => by rw [if_neg (by omega)], fun _ _ => rfl⟩
  obtain ⟨s1, s2⟩ := s
  obtain ⟨k, e1, h1, hM2, h2, h3⟩ := p
  dsimp only at e1 hM2 h2 h3
  subst e1
  dsimp only
  refine t_ite (fun c => ?_) (fun c => ?_)
  · have c := (nI_leI (a := 150) (by omega) (by omega)).mp c
    obtain rfl : k = 150 := by omega
    exact t_ret ⟨hM2, h2, h3⟩
  · have c := mt (nI_leI (a := 150) (b := k) (by omega) (by omega)).mpr c
    refine t_be (rI_n (a := k) (by omega) (by omega)) (t_be (wI_n (a := k) (by omega) (by omega)) ?_)
    refine t_nx ?_ (by show 400 - (nI k + 1).toInt.toNat < 400 - (nI k).toInt.toNat; rw [nI_1, nIt (by omega), nIt (by omega)]; omega)
    dsimp only
    have hv := hM2.1 88 (k)
    rw [show rg 88 k = rgNow k from rfl] at hv
    refine ⟨k + 1, nI_1 k, by omega, hM2.up (k := 70) (j := k) rfl (lo := (rgNow k).1) (hi := (rgNow k).2) (by rw [show rg 70 k = rgNow k from rfl]) hv.1 hv.2, fun a => ?_, fun q hq => ?_⟩
    · rw [gu_in]
      by_cases z : a = k
      · rw [if_pos z, if_pos (by omega), h3 88 (by omega), show a - (0) + (0) = k by omega]
      · rw [if_neg z, h2]
        by_cases y : 0 ≤ a ∧ a < 0 + k
        · rw [if_pos y, if_pos (by omega)]
        · rw [if_neg y, if_neg (by omega)]
    · rw [g_up_row hq]; exact h3 q hq
theorem n_keep13 {I0 I : gM} (hM : MI false I0 I) : T (lX9_keep_13 (nI 331, I)) (fun r => MI false I0 r ∧ (∀ a, r 81 a = if a < 12909 then I 81 (a + 331) else I 81 a) ∧ ∀ k, k ≠ 81 → r k = I k) := by
  unfold lX9_keep_13
  refine t_it (P := fun s => ∃ k, s.1 = nI k ∧ 331 ≤ k ∧ k ≤ 13240 ∧ MI false I0 s.2 ∧ (∀ a, s.2 81 a = if a + 331 < k then I 81 (a + 331) else I 81 a) ∧ ∀ k, k ≠ 81 → s.2 k = I k) (μ := fun s => 14000 - s.1.toInt.toNat) (fun s p => ?_) ⟨331, rfl, by omega, by omega, hM, fun a => by rw [if_neg (by omega)], fun _ _ => rfl⟩
  obtain ⟨s1, s2⟩ := s
  obtain ⟨k, e1, h0, h1, hM2, h2, h3⟩ := p
  dsimp only at e1 hM2 h2 h3
  subst e1
  dsimp only
  refine t_ite (fun c => ?_) (fun c => ?_)
  · have c := (nI_leI (a := 13240) (by omega) (by omega)).mp c
    refine t_ret ⟨hM2, fun a => ?_, h3⟩
    rw [h2]
    by_cases z : a < 12909
    · rw [if_pos z, if_pos (by omega)]
    · rw [if_neg z, if_neg (by omega)]
  · have c := mt (nI_leI (a := 13240) (b := k) (by omega) (by omega)).mpr c
    rw [L331, nI_sub (by omega)]
    refine t_be (rI_n (a := k) (by omega) (by omega)) (t_be (wI_n (a := k - 331) (by omega) (by omega)) ?_)
    refine t_nx ?_ (by show 14000 - (nI k + 1).toInt.toNat < 14000 - (nI k).toInt.toNat; rw [nI_1, nIt (by omega), nIt (by omega)]; omega)
    dsimp only
    have hv : (rg 81 (k - 331)).1 ≤ (s2 81 k).toInt ∧ (s2 81 k).toInt ≤ (rg 81 (k - 331)).2 := by
      have := hM2.1 81 k
      rw [show rg 81 (k - 331) = rg 81 k by show rgNow ((k - 331) % 331) = rgNow (k % 331); rw [show (k - 331) % 331 = k % 331 by omega]]
      exact this
    refine ⟨k + 1, nI_1 k, by omega, by omega, hM2.up' rfl hv, fun a => ?_, fun q hq => ?_⟩
    · rw [gu_in, h2, h2]
      by_cases z : a = k - 331
      · rw [if_pos z, if_neg (by omega), if_pos (by omega), show a + 331 = k by omega]
      · rw [if_neg z]
        by_cases y : a + 331 < k
        · rw [if_pos y, if_pos (by omega)]
        · rw [if_neg y, if_neg (by omega)]
    · rw [g_up_row hq]; exact h3 q hq
theorem n_note15 {I0 I : gM} (hM : MI false I0 I) : T (lX9_note_15 (nI 3, I)) (fun r => MI false I0 r ∧ (∀ a, r 70 a = if 151 ≤ a ∧ a < 328 then I 70 (a + 3) else I 70 a) ∧ ∀ k, k ≠ 70 → r k = I k) := by
  unfold lX9_note_15
  refine t_it (P := fun s => ∃ k, s.1 = nI k ∧ 3 ≤ k ∧ k ≤ 180 ∧ MI false I0 s.2 ∧ (∀ a, s.2 70 a = if 151 ≤ a ∧ a + 3 < 151 + k then I 70 (a + 3) else I 70 a) ∧ ∀ k, k ≠ 70 → s.2 k = I k) (μ := fun s => 400 - s.1.toInt.toNat) (fun s p => ?_) ⟨3, rfl, by omega, by omega, hM, fun a => by rw [if_neg (by omega)], fun _ _ => rfl⟩
  obtain ⟨s1, s2⟩ := s
  obtain ⟨k, e1, h0, h1, hM2, h2, h3⟩ := p
  dsimp only at e1 hM2 h2 h3
  subst e1
  dsimp only
  refine t_ite (fun c => ?_) (fun c => ?_)
  · have c := (nI_leI (a := 180) (by omega) (by omega)).mp c
    refine t_ret ⟨hM2, fun a => ?_, h3⟩
    rw [h2]
    by_cases z : 151 ≤ a ∧ a < 328
    · rw [if_pos z, if_pos (by omega)]
    · rw [if_neg z, if_neg (by omega)]
  · have c := mt (nI_leI (a := 180) (b := k) (by omega) (by omega)).mpr c
    rw [L151, nI_add, L3, nI_sub (by omega)]
    refine t_be (rI_n (a := 151 + k) (by omega) (by omega)) (t_be (wI_n (a := 151 + k - 3) (by omega) (by omega)) ?_)
    refine t_nx ?_ (by show 400 - (nI k + 1).toInt.toNat < 400 - (nI k).toInt.toNat; rw [nI_1, nIt (by omega), nIt (by omega)]; omega)
    dsimp only
    refine ⟨k + 1, nI_1 k, by omega, by omega, hM2.up (k := 70) (j := 151 + k - 3) rfl (lo := -2147483648) (hi := 2147483647) (rgN_t (by omega)) (tTop _).1 (tTop _).2, fun a => ?_, fun q hq => ?_⟩
    · rw [gu_in, h2, h2]
      by_cases z : a = 151 + k - 3
      · rw [if_pos z, if_neg (by omega), if_pos (by omega), show a + 3 = 151 + k by omega]
      · rw [if_neg z]
        by_cases y : 151 ≤ a ∧ a + 3 < 151 + k
        · rw [if_pos y, if_pos (by omega)]
        · rw [if_neg y, if_neg (by omega)]
    · rw [g_up_row hq]; exact h3 q hq
/-- the state is kept: where, and what is there behind it -/
def kp9 (A : Nat) (K w : Nat → Int32) : Nat → Int32 := fun a => if A = 40 then (if 12909 ≤ a ∧ a < 13240 then w (a - 12909) else if a < 12909 then K (a + 331) else K a) else (if 331 * A ≤ a ∧ a < 331 * A + 331 then w (a - 331 * A) else K a)
theorem n_keep {I0 I : gM} (hM : MI false I0 I) {A : Nat} (hA : A ≤ 40) (e : I 62 29 = nI A) : ∃ r, fX9_keep I = some r ∧ MI false I0 r ∧ r 62 29 = nI (if A = 40 then 40 else A + 1) ∧ r 81 = kp9 A (I 81) (I 70) ∧ (∀ j, j ≠ 29 → r 62 j = I 62 j) ∧ ∀ k, k ≠ 62 → k ≠ 81 → r k = I k := by
  have tail : ∀ (I1 : gM) (A1 : Nat), A1 ≤ 39 → MI false I0 I1 → I1 62 29 = nI A1 → ∃ r, bX9_keep_52 I1 = some r ∧ MI false I0 r ∧ r 62 29 = nI (A1 + 1) ∧ (∀ a, r 81 a = if 331 * A1 ≤ a ∧ a < 331 * A1 + 331 then I1 70 (a - 331 * A1) else I1 81 a) ∧ (∀ j, j ≠ 29 → r 62 j = I1 62 j) ∧ ∀ k, k ≠ 62 → k ≠ 81 → r k = I1 k := fun I1 A1 hA1 M1 e1 => by
    obtain ⟨w, ew, w1, w2, w3⟩ := n_lX9_keep_54 M1 hA1 e1
    have e2 : w 62 29 + 1 = nI (A1 + 1) := by rw [w3 62 (by omega), e1, nI_1]
    refine ⟨g_up w 62 29 (nI (A1 + 1)), ?_, w1.up (k := 62) rfl (lo := 0) (hi := 40) rfl (by rw [tnI (by omega)]; omega) (by rw [tnI (by omega)]; omega), g_up_self, fun a => ?_, fun j hj => ?_, fun k y1 y2 => ?_⟩
    · unfold bX9_keep_52
      rw [L0, ew, obs, e2, pU_n, obs]
    · rw [g_up_row (by omega), w2]; rfl
    · rw [g_up_ne (Or.inr hj), w3 62 (by omega)]
    · rw [g_up_row y1, w3 k y2]
  unfold fX9_keep
  by_cases c : A = 40
  · subst c
    rw [if_pos (show I 62 29 = (40 : Int32) from e)]
    obtain ⟨w, ew, w1, w2, w3⟩ := n_keep13 hM
    have e2 : w 62 29 - 1 = nI 39 := by rw [w3 62 (by omega), e]; rfl
    obtain ⟨r, er, r1, r2, r3, r4, r5⟩ := tail (g_up w 62 29 (nI 39)) 39 (by omega) (w1.up (k := 62) rfl (lo := 0) (hi := 40) rfl (by decide) (by decide)) g_up_self
    refine ⟨r, ?_, r1, by rw [r2, if_pos rfl], ?_, fun j hj => ?_, fun k y1 y2 => ?_⟩
    · rw [L331, ew, obs, e2, pU_n, obs, er]
    · funext a
      unfold kp9
      rw [if_pos rfl, r3, g_up_row (by omega), g_up_row (by omega), w3 70 (by omega), w2]
    · rw [r4 j hj, g_up_ne (Or.inr hj), w3 62 (by omega)]
    · rw [r5 k y1 y2, g_up_row y1, w3 k y2]
  · rw [if_neg (show ¬ I 62 29 = (40 : Int32) from fun q => c (nI_inj (b := 40) (e.symm.trans q) (by omega) (by omega)))]
    obtain ⟨r, er, r1, r2, r3, r4, r5⟩ := tail I A (by omega) hM e
    refine ⟨r, er, r1, by rw [r2, if_neg c], ?_, r4, r5⟩
    funext a
    unfold kp9
    rw [if_neg c, r3]
theorem n_undo {I0 I : gM} (hM : MI false I0 I) {A : Nat} (hA : A ≤ 40) (e : I 62 29 = nI A) (h : 0 < A) : ∃ r, fX9_undo I = some (nI (A - 1), r) ∧ MI false I0 r ∧ r 62 29 = nI (A - 1) ∧ (∀ a, r 70 a = if a < 331 then I 81 (331 * (A - 1) + a) else I 70 a) ∧ (∀ j, j ≠ 29 → r 62 j = I 62 j) ∧ ∀ k, k ≠ 62 → k ≠ 70 → r k = I k := by
  have e1 : I 62 29 - 1 = nI (A - 1) := by rw [e, nI_s1 h]
  obtain ⟨w, ew, w1, w2, w3⟩ := n_lX9_undo_21 (I := g_up I 62 29 (nI (A - 1))) (A := A - 1) (hM.up (k := 62) rfl (lo := 0) (hi := 40) rfl (by rw [tnI (by omega)]; omega) (by rw [tnI (by omega)]; omega)) (by omega) g_up_self
  have e29 : w 62 29 = nI (A - 1) := by rw [w3 62 (by omega), g_up_self]
  refine ⟨w, ?_, w1, e29, fun a => ?_, fun j hj => ?_, fun k y1 y2 => ?_⟩
  · unfold fX9_undo
    rw [if_neg (show ¬ I 62 29 = (0 : Int32) from fun q => by have := nI_inj (b := 0) (e.symm.trans q) (by omega) (by omega); omega), e1, pU_n, obs, L0, ew, obs, e29]
  · rw [w2, g_up_row (by omega), g_up_row (by omega)]
    by_cases z : a < 331
    · rw [if_pos ⟨by omega, by omega⟩, if_pos z, show a - 0 + 331 * (A - 1) = 331 * (A - 1) + a by omega]
    · rw [if_neg (by omega), if_neg z]
  · rw [w3 62 (by omega), g_up_ne (Or.inr hj)]
  · rw [w3 k y2, g_up_row y1]
theorem n_putAside {I0 I : gM} (hM : MI false I0 I) : ∃ r, fX9_putAside I = some r ∧ MI false I0 r ∧ (∀ a, a < 150 → r 88 a = I 70 a) ∧ ∀ k, k ≠ 88 → r k = I k := by
  obtain ⟨w, ew, w1, w2, w3⟩ := n_lX9_putAside_2 hM
  refine ⟨w, ?_, w1, fun a ha => ?_, w3⟩
  · unfold fX9_putAside
    rw [L0, ew, obs]
  · rw [w2, if_pos ⟨by omega, by omega⟩, show a - 0 + 0 = a by omega]
theorem n_bringBack {I0 I : gM} (hM : MI false I0 I) : ∃ r, fX9_bringBack I = some r ∧ MI false I0 r ∧ (∀ a, r 70 a = if a < 150 then I 88 a else I 70 a) ∧ ∀ k, k ≠ 70 → r k = I k := by
  obtain ⟨w, ew, w1, w2, w3⟩ := n_lX9_bringBack_2 hM
  refine ⟨w, ?_, w1, fun a => ?_, w3⟩
  · unfold fX9_bringBack
    rw [L0, ew, obs]
  · rw [w2]
    by_cases z : a < 150
    · rw [if_pos ⟨by omega, by omega⟩, if_pos z, show a - 0 + 0 = a by omega]
    · rw [if_neg (by omega), if_neg z]
end P_29b_copy9
