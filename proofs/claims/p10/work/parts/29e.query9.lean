/-! the reference: what is counted of the join -/
theorem n_isAsked {I0 I : gM} (hM : MI false I0 I) {n : Nat} (hn : n ≤ 4) (en : I 62 17 = nI n) (v : Int32) : (∃ l, l < 4 ∧ v = nI l ∧ ask9 I n l ∧ 0 < n ∧ fX9_isAsked v I = some 1) ∨ ((∀ l, l < 4 → v = nI l → ¬ ask9 I n l) ∧ fX9_isAsked v I = some 0) := by
  unfold fX9_isAsked
  rw [n_areTables hn en, obs]
  by_cases c : n = 0
  · rw [if_pos c, if_pos rfl]
    refine Or.inr ⟨fun l _ _ h => ?_, rfl⟩
    obtain ⟨t, a, _⟩ := h
    omega
  · rw [if_neg c, if_neg (by decide)]
    have t3 : (3 : Int32).toInt = 3 := by decide
    rcases n_in v 0 3 with ⟨h1, h2, h3⟩ | ⟨h1, h3⟩
    · rw [h3, obs, if_neg (by decide)]
      rw [t0i] at h1
      rw [t3] at h2
      obtain ⟨am, am1, ea, am2⟩ := n_asked hM hn en
      have ev := nI_self h1
      have l4 : v.toInt.toNat < 4 := by omega
      generalize v.toInt.toNat = l at ev l4
      subst ev
      rw [ea, obs]
      by_cases b : am.testBit l = true
      · rw [n_has1 ((hs_nI am1 l4).mpr b), obs, if_neg (by decide)]
        exact Or.inl ⟨l, l4, rfl, (am2 l l4).mp b, by omega, rfl⟩
      · rw [n_has0 (mt (hs_nI am1 l4).mp b), obs, if_pos rfl]
        refine Or.inr ⟨fun l' h4 e h => b ?_, rfl⟩
        rw [nI_inj e (by omega) (by omega)]
        exact (am2 l' h4).mpr h
    · rw [h3, obs, if_pos rfl]
      rw [t0i, t3] at h1
      refine Or.inr ⟨fun l h4 e _ => h1 ?_, rfl⟩
      rw [e, tnI (by omega)]; omega
/-- a letter asked: a table's column of it -/
theorem ask_col {I0 I : gM} (hM : MI false I0 I) {n l : Nat} (hn : n ≤ 4) (hl : l < 4) (h : ask9 I n l) : ∃ t c, t < n ∧ c < 3 ∧ hs (I 70 0) t ∧ c < (I 72 t).toInt.toNat ∧ CO (I 72 t).toInt.toNat (fun c => I 73 (3 * t + c)) (nI l) (nI c) := by
  obtain ⟨t, t1, t2, c, c1, c2⟩ := h
  have w3 := hM.wd t (by omega)
  obtain ⟨c', a, b, d⟩ := least (P := fun c => I 73 (3 * t + c) = nI l) ⟨c, c1, c2⟩
  exact ⟨t, c', t1, by omega, t2, a, Or.inl ⟨c', a, rfl, b, d⟩⟩
theorem joined_nn {I0 I : gM} (hM : MI false I0 I) (hG : GJ9 I) {n l j J : Nat} (hn : n ≤ 4) (en : I 62 17 = nI n) (hJ : J ≤ 20736) (eJ : I 62 26 = nI J) (ok : okW n (I 72) (I 70)) (hl : l < 4) (h : ask9 I n l) (hj : j < J) : 0 ≤ (I 80 (4 * j + l)).toInt := by
  obtain ⟨n', J', g1, g2, g3, g4, g5⟩ := hG
  obtain rfl := nI_inj (g3.symm.trans en) (by omega) (by omega)
  obtain rfl := nI_inj (g4.symm.trans eJ) (by omega) (by omega)
  obtain ⟨t, c, t1, c1, t2, c2, co⟩ := ask_col hM hn hl h
  obtain ⟨i, i1, i2⟩ := g5 j hj l hl t t1 t2 c c1 co
  rw [← i2]
  exact ok t t1 i i1 c c2
theorem n_isTold2 {I0 I : gM} (hM : MI false I0 I) : T (lX9_isTold_2 (nI 0, I)) (fun r => MI false I0 r ∧ (∀ a, a < 100 → r 86 a = -1) ∧ ∀ k, k ≠ 86 → r k = I k) := by
  unfold lX9_isTold_2
  refine t_it (P := fun s => ∃ a, s.1 = nI a ∧ a ≤ 100 ∧ MI false I0 s.2 ∧ (∀ a', a' < a → s.2 86 a' = -1) ∧ ∀ k, k ≠ 86 → s.2 k = I k) (μ := fun s => 500 - s.1.toInt.toNat) (fun s p => ?_) ⟨0, rfl, by omega, hM, fun a h => by omega, fun _ _ => rfl⟩
  obtain ⟨s1, s2⟩ := s
  obtain ⟨a, e1, h1, hM2, h2, h3⟩ := p
  dsimp only at e1 hM2 h2 h3
  subst e1
  dsimp only
  refine t_ite (fun c => ?_) (fun c => ?_)
  · have c := (nI_leI (a := 100) (by omega) (by omega)).mp c
    exact t_ret ⟨hM2, fun a' h => h2 a' (by omega), h3⟩
  · have c := mt (nI_leI (a := 100) (b := a) (by omega) (by omega)).mpr c
    refine t_be (wI_n (by omega) (by omega)) ?_
    refine t_nx ?_ (by show 500 - (nI a + 1).toInt.toNat < 500 - (nI a).toInt.toNat; rw [nI_1, nIt (by omega), nIt (by omega)]; omega)
    dsimp only
    refine ⟨a + 1, nI_1 a, by omega, hM2.up (k := 86) rfl (lo := -2147483648) (hi := 2147483647) rfl (tTop _).1 (tTop _).2, fun a' h => ?_, fun k hk => ?_⟩
    · rw [gu_in]
      by_cases z : a' = a
      · rw [if_pos z]
      · rw [if_neg z]; exact h2 a' (by omega)
    · rw [g_up_row hk]; exact h3 k hk
theorem n_numberOf {I : gM} {j l : Nat} (hj : j < 20736) (hl : l < 4) : fX9_numberOf (nI j) (nI l) I = some (I 80 (4 * j + l)) := by
  unfold fX9_numberOf
  rw [a4, rI_n (by omega) (by omega), obs]
theorem n_isTold {I0 I : gM} (hM : MI false I0 I) (hG : GJ9 I) {n l o : Nat} (hn : n ≤ 4) (en : I 62 17 = nI n) (ok : okW n (I 72) (I 70)) (hl : l < 4) (ho : o < 4) (h : ask9 I n l) : T (fX9_isTold (nI l) (nI o) I) (fun r => (r.1 = 0 ∨ r.1 = 1) ∧ MI false I0 r.2 ∧ ∀ k, k ≠ 86 → r.2 k = I k) := by
  obtain ⟨J, hJ, eJ⟩ := hM.n (k := 62) (j := 26) (hi := 20736) rfl
  have nn : ∀ j, j < J → ∃ v, v < 100 ∧ I 80 (4 * j + l) = nI v := fun j hj => by
    have h0 := joined_nn hM hG hn en hJ eJ ok hl h hj
    have h1 := hM.at (k := 80) (j := 4 * j + l) (lo := -1) (hi := 99) rfl
    exact ⟨_, by omega, nI_self h0⟩
  unfold fX9_isTold
  refine t_bind (n_isTold2 hM) (fun a pa => ?_)
  obtain ⟨a1, a2, a3⟩ := pa
  refine t_bind (P := fun w : Int32 × gM => (w.1 = 0 ∨ w.1 = 1) ∧ MI false I0 w.2 ∧ ∀ k, k ≠ 86 → w.2 k = I k) ?_ (fun w pw => ?_)
  · unfold lX9_isTold_26
    refine t_it (P := fun s => ∃ j, s.2.1 = nI j ∧ j ≤ J ∧ (s.1 = 0 ∨ s.1 = 1) ∧ MI false I0 s.2.2 ∧ ∀ k, k ≠ 86 → s.2.2 k = I k) (μ := fun s => 20800 - s.2.1.toInt.toNat) (fun s p => ?_) ⟨0, rfl, by omega, Or.inr rfl, a1, a3⟩
    obtain ⟨s1, s2, s3⟩ := s
    obtain ⟨j, e1, h1, h2, hM2, h3⟩ := p
    dsimp only at e1 h2 hM2 h3
    subst e1
    dsimp only
    have e26 : s3 62 26 = nI J := by rw [h3 62 (by omega)]; exact eJ
    refine t_ite (fun c => ?_) (fun c => ?_)
    · exact t_ret ⟨h2, hM2, h3⟩
    · rw [e26] at c
      have c := mt (nI_leI (a := J) (b := j) (by omega) (by omega)).mpr c
      obtain ⟨v, v1, ev⟩ := nn j (by omega)
      have mu : 20800 - (nI j + 1).toInt.toNat < 20800 - (nI j).toInt.toNat := by rw [nI_1, nIt (by omega), nIt (by omega)]; omega
      rw [n_numberOf (by omega) hl, obs, h3 80 (by omega), ev]
      have nx : ∀ b : Int32, (b = 0 ∨ b = 1) → T (bX9_isTold_81 (nI o) (nI j) (nI v) b s3) (LQ (fun s => ∃ j, s.2.1 = nI j ∧ j ≤ J ∧ (s.1 = 0 ∨ s.1 = 1) ∧ MI false I0 s.2.2 ∧ ∀ k, k ≠ 86 → s.2.2 k = I k) (20800 - (nI j).toInt.toNat) (fun s => 20800 - s.2.1.toInt.toNat) (fun w : Int32 × gM => (w.1 = 0 ∨ w.1 = 1) ∧ MI false I0 w.2 ∧ ∀ k, k ≠ 86 → w.2 k = I k)) := fun b hb => by
        unfold bX9_isTold_81
        rw [n_numberOf (by omega) ho, obs]
        refine t_be (wI_n (by omega) (by omega)) ?_
        refine t_nx ?_ mu
        dsimp only
        exact ⟨j + 1, nI_1 j, by omega, hb, hM2.up (k := 86) rfl (lo := -2147483648) (hi := 2147483647) rfl (tTop _).1 (tTop _).2, fun k hk => by rw [g_up_row hk]; exact h3 k hk⟩
      refine t_ite (fun c1 => nx 0 (Or.inl rfl)) (fun c1 => ?_)
      refine t_be (rI_n (by omega) (by omega)) ?_
      refine t_ite (fun c2 => nx 1 (Or.inr rfl)) (fun c2 => ?_)
      refine t_be (rI_n (by omega) (by omega)) ?_
      rw [n_numberOf (by omega) ho, obs]
      exact t_ite (fun c3 => nx 1 (Or.inr rfl)) (fun c3 => nx 0 (Or.inl rfl))
  · obtain ⟨w1, w2⟩ := pw
    rcases w1 with z | z
    · rw [z, bO_0, obs]; exact t_ret ⟨Or.inl rfl, w2⟩
    · rw [z, bO_1, obs]; exact t_ret ⟨Or.inr rfl, w2⟩
theorem ask9.cong {I r : gM} {n l : Nat} (h : ask9 I n l) (h70 : r 70 = I 70) (h72 : r 72 = I 72) (h73 : r 73 = I 73) : ask9 r n l := by
  unfold ask9
  rw [h70, h72, h73]; exact h
theorem okW_of {I : gM} {n : Nat} (hA : A9 I) (hn : n ≤ 4) (en : I 62 17 = nI n) : okW n (I 72) (I 70) := by
  have := hA.1
  rwa [en, nIt (by omega)] at this
theorem n_tells {I0 I : gM} (hM : MI false I0 I) (hA : A9 I) (v1 v2 : Int32) : T (fX9_tells v1 v2 I) (fun r => MI false I0 r.2 ∧ A9 r.2) := by
  obtain ⟨n, hn, en⟩ := hM.tn
  unfold fX9_tells
  rcases n_isAsked hM hn en v1 with ⟨l, l4, rfl, la, _, e1⟩ | ⟨_, e1⟩
  · rw [e1, obs, if_neg (by decide)]
    rcases n_isAsked hM hn en v2 with ⟨o, o4, rfl, oa, _, e2⟩ | ⟨_, e2⟩
    · rw [e2, obs, if_neg (by decide)]
      obtain ⟨r, er, _, r1, r2, r3, r4⟩ := n_rowsNow hM
      have Ar := hA.join r3 r4
      have en' : r 62 17 = nI n := by rw [r4 17 (by omega) (by omega) (by omega)]; exact en
      refine t_be er (t_bind (n_isTold r1 r2 hn en' (okW_of Ar hn en') l4 o4 (la.cong (r3 70 (by omega) (by omega) (by omega) (by omega) (by omega) (by omega) (by omega) (by omega)) (r3 72 (by omega) (by omega) (by omega) (by omega) (by omega) (by omega) (by omega) (by omega)) (r3 73 (by omega) (by omega) (by omega) (by omega) (by omega) (by omega) (by omega) (by omega)))) (fun w pw => ?_))
      obtain ⟨w1, w2, w3⟩ := pw
      have ok : MI false I0 w.2 ∧ A9 w.2 := ⟨w2, Ar.same (by rw [w3 62 (by omega)]) (by rw [w3 62 (by omega)]) (by rw [w3 62 (by omega)]) (fun k hk => w3 k (by omega))⟩
      rcases w1 with z | z
      · rw [z, bO_0, obs]; exact t_ret ok
      · rw [z, bO_1, obs]; exact t_ret ok
    · rw [e2, obs, if_pos rfl]; exact t_ret ⟨hM, hA⟩
  · rw [e1, obs, if_pos rfl]; exact t_ret ⟨hM, hA⟩
theorem n_couples {I0 I : gM} (hM : MI false I0 I) (hG : GJ9 I) (hA : A9 I) : T (fX9_couples I) (fun r => MI false I0 r.2 ∧ ∀ k, k ≠ 86 → r.2 k = I k) := by
  obtain ⟨n, hn, en⟩ := hM.tn
  unfold fX9_couples
  refine t_bind (P := fun w : Int32 × gM => MI false I0 w.2 ∧ ∀ k, k ≠ 86 → w.2 k = I k) ?_ (fun w pw => t_ret pw)
  unfold lX9_couples_4
  refine t_it (P := fun s => ∃ l, s.2.1 = nI l ∧ l ≤ 4 ∧ MI false I0 s.2.2 ∧ ∀ k, k ≠ 86 → s.2.2 k = I k) (μ := fun s => 20 - s.2.1.toInt.toNat) (fun s p => ?_) ⟨0, rfl, by omega, hM, fun _ _ => rfl⟩
  obtain ⟨s1, s2, s3⟩ := s
  obtain ⟨l, e1, h1, hM2, h2⟩ := p
  dsimp only at e1 hM2 h2
  subst e1
  dsimp only
  refine t_ite (fun c => t_ret ⟨hM2, h2⟩) (fun c => ?_)
  have c := mt (nI_leI (a := 4) (b := l) (by omega) (by omega)).mpr c
  refine t_bind (P := fun w : Int32 × gM => MI false I0 w.2 ∧ ∀ k, k ≠ 86 → w.2 k = I k) ?_ (fun w pw => ?_)
  · unfold lX9_couples_11
    refine t_it (P := fun s => ∃ o, s.2.1 = nI o ∧ o ≤ 4 ∧ MI false I0 s.2.2 ∧ ∀ k, k ≠ 86 → s.2.2 k = I k) (μ := fun s => 20 - s.2.1.toInt.toNat) (fun s p => ?_) ⟨0, rfl, by omega, hM2, h2⟩
    obtain ⟨u1, u2, u3⟩ := s
    obtain ⟨o, e1, g1, hM3, g2⟩ := p
    dsimp only at e1 hM3 g2
    subst e1
    dsimp only
    refine t_ite (fun c => t_ret ⟨hM3, g2⟩) (fun c1 => ?_)
    have c1 := mt (nI_leI (a := 4) (b := o) (by omega) (by omega)).mpr c1
    have mu : 20 - (nI o + 1).toInt.toNat < 20 - (nI o).toInt.toNat := by rw [nI_1, nIt (by omega), nIt (by omega)]; omega
    have nx : ∀ (b u : Int32) (I2 : gM), MI false I0 I2 → (∀ k, k ≠ 86 → I2 k = I k) → T (bX9_couples_52 (nI o) b u I2) (LQ (fun s => ∃ o, s.2.1 = nI o ∧ o ≤ 4 ∧ MI false I0 s.2.2 ∧ ∀ k, k ≠ 86 → s.2.2 k = I k) (20 - (nI o).toInt.toNat) (fun s => 20 - s.2.1.toInt.toNat) (fun w : Int32 × gM => MI false I0 w.2 ∧ ∀ k, k ≠ 86 → w.2 k = I k)) := fun b u I2 m1 m2 => by
      unfold bX9_couples_52
      exact t_nx ⟨o + 1, nI_1 o, by omega, m1, m2⟩ mu
    have en3 : u3 62 17 = nI n := by rw [g2 62 (by omega)]; exact en
    refine t_ite (fun c2 => nx _ _ _ hM3 g2) (fun c2 => ?_)
    rcases n_isAsked hM3 hn en3 (nI l) with ⟨l', l4, el, la, _, e1⟩ | ⟨_, e1⟩
    · rw [e1, obs, if_neg (by decide)]
      obtain rfl := nI_inj el (by omega) (by omega)
      rcases n_isAsked hM3 hn en3 (nI o) with ⟨o', o4, eo, oa, _, e2⟩ | ⟨_, e2⟩
      · rw [e2, obs, if_neg (by decide)]
        obtain rfl := nI_inj eo (by omega) (by omega)
        have G3 : GJ9 u3 := hG.same (by rw [g2 62 (by omega)]) (by rw [g2 62 (by omega)]) (fun k hk => g2 k (by omega))
        have ok3 : okW n (u3 72) (u3 70) := by
          rw [g2 70 (by omega), g2 72 (by omega)]; exact okW_of hA hn en
        refine t_bind (n_isTold hM3 G3 hn en3 ok3 l4 o4 la) (fun w pw => ?_)
        obtain ⟨w1, w2, w3⟩ := pw
        have wk : ∀ k, k ≠ 86 → w.2 k = I k := fun k hk => (w3 k hk).trans (g2 k hk)
        exact t_ite (fun c3 => nx _ _ _ w2 wk) (fun c3 => nx _ _ _ w2 wk)
      · rw [e2, obs, if_pos rfl]; exact nx _ _ _ hM3 g2
    · rw [e1, obs, if_pos rfl]; exact nx _ _ _ hM3 g2
  · refine t_nx ?_ (by show 20 - (nI l + 1).toInt.toNat < 20 - (nI l).toInt.toNat; rw [nI_1, nIt (by omega), nIt (by omega)]; omega)
    exact ⟨l + 1, nI_1 l, by omega, pw⟩
/-! how many unlike numbers there can be -/
def qn (val : Nat → Nat) (v : Nat) : Nat → Nat
  | 0 => 0
  | m + 1 => qn val v m + (if val m < v then 1 else 0)
theorem qn_le (val : Nat → Nat) (v : Nat) : ∀ m, qn val v m ≤ m := by
  intro m
  induction m with
  | zero => exact Nat.le_refl _
  | succ m ih => unfold qn; split <;> omega
theorem qn_up (val : Nat → Nat) (v : Nat) : ∀ m, qn val v m ≤ qn val (v + 1) m ∧ ((∃ i, i < m ∧ val i = v) → qn val v m + 1 ≤ qn val (v + 1) m) := by
  intro m
  induction m with
  | zero => exact ⟨Nat.le_refl _, fun ⟨i, h, _⟩ => by omega⟩
  | succ m ih =>
    obtain ⟨h1, h2⟩ := ih
    have e1 : qn val v (m + 1) = qn val v m + (if val m < v then 1 else 0) := rfl
    have e2 : qn val (v + 1) (m + 1) = qn val (v + 1) m + (if val m < v + 1 then 1 else 0) := rfl
    rw [e1, e2]
    constructor
    · split <;> split <;> omega
    · rintro ⟨i, i1, i2⟩
      rcases (by omega : i < m ∨ i = m) with z | z
      · have := h2 ⟨i, z, i2⟩
        split <;> split <;> omega
      · subst z
        rw [if_neg (by omega), if_pos (by omega)]; omega
theorem cntJ_pos {K : Nat → Int32} {l v : Nat} : ∀ {J : Nat}, 0 < cntJ K l v J → ∃ j, j < J ∧ mx0 (K (4 * j + l)) = v := by
  intro J
  induction J with
  | zero => intro h; exact absurd h (by unfold cntJ; omega)
  | succ J ih =>
    intro h
    unfold cntJ at h
    by_cases c : mx0 (K (4 * J + l)) = v
    · exact ⟨J, by omega, c⟩
    · rw [if_neg c] at h
      obtain ⟨j, a, b⟩ := ih h
      exact ⟨j, by omega, b⟩
theorem cntJ_has {K : Nat → Int32} {l j : Nat} : ∀ {J : Nat}, j < J → 0 < cntJ K l (mx0 (K (4 * j + l))) J := by
  intro J
  induction J with
  | zero => intro h; omega
  | succ J ih =>
    intro h
    unfold cntJ
    rcases (by omega : j < J ∨ j = J) with z | z
    · have := ih z; omega
    · subst z; rw [if_pos rfl]; omega
theorem cdJ_qn {K : Nat → Int32} {l J m : Nat} {val : Nat → Nat} (h : ∀ j, j < J → ∃ i, i < m ∧ val i = mx0 (K (4 * j + l))) : ∀ v, cdJ K l J v ≤ qn val v m := by
  intro v
  induction v with
  | zero => exact Nat.zero_le _
  | succ v ih =>
    have e : cdJ K l J (v + 1) = cdJ K l J v + (if 0 < cntJ K l v J then 1 else 0) := rfl
    obtain ⟨h1, h2⟩ := qn_up val v m
    rw [e]
    by_cases c : 0 < cntJ K l v J
    · rw [if_pos c]
      obtain ⟨j, a, b⟩ := cntJ_pos c
      obtain ⟨i, i1, i2⟩ := h j a
      have := h2 ⟨i, i1, i2.trans b⟩
      omega
    · rw [if_neg c]; omega
theorem cd_12 {I0 I : gM} (hM : MI false I0 I) (hG : GJ9 I) {n l J : Nat} (hn : n ≤ 4) (en : I 62 17 = nI n) (hJ : J ≤ 20736) (eJ : I 62 26 = nI J) (hl : l < 4) (h : ask9 I n l) : ∀ v, cdJ (I 80) l J v ≤ 12 := by
  obtain ⟨n', J', g1, g2, g3, g4, g5⟩ := hG
  obtain rfl := nI_inj (g3.symm.trans en) (by omega) (by omega)
  obtain rfl := nI_inj (g4.symm.trans eJ) (by omega) (by omega)
  obtain ⟨t, c, t1, c1, t2, c2, co⟩ := ask_col hM hn hl h
  intro v
  have h1 := cdJ_qn (K := I 80) (l := l) (J := J') (m := (I 70 (2 + t)).toInt.toNat) (val := fun i => mx0 (I 70 (6 + 3 * (12 * t + i) + c))) (fun j hj => by
    obtain ⟨i, i1, i2⟩ := g5 j hj l hl t t1 t2 c c1 co
    exact ⟨i, i1, by show mx0 _ = _; rw [i2]⟩) v
  have h2 := qn_le (fun i => mx0 (I 70 (6 + 3 * (12 * t + i) + c))) v (I 70 (2 + t)).toInt.toNat
  have h3 := (mi_rW hM).m (t := t) (by omega)
  omega
theorem sub_bit : ∀ s, s < 16 → ∀ am, am < 16 → nI s &&& (nI am ^^^ (-1)) = 0 → ∀ l, l < 4 → s.testBit l = true → am.testBit l = true := by decide +kernel
theorem n_projected36 {I0 I : gM} (hM : MI false I0 I) : T (lX9_projected_36 (nI 0, I)) (fun r => MI false I0 r ∧ (∀ a, a < 20736 → r 85 a = 0) ∧ ∀ k, k ≠ 85 → r k = I k) := by
  unfold lX9_projected_36
  refine t_it (P := fun s => ∃ a, s.1 = nI a ∧ a ≤ 20736 ∧ MI false I0 s.2 ∧ (∀ a', a' < a → s.2 85 a' = 0) ∧ ∀ k, k ≠ 85 → s.2 k = I k) (μ := fun s => 21000 - s.1.toInt.toNat) (fun s p => ?_) ⟨0, rfl, by omega, hM, fun a h => by omega, fun _ _ => rfl⟩
  obtain ⟨s1, s2⟩ := s
  obtain ⟨a, e1, h1, hM2, h2, h3⟩ := p
  dsimp only at e1 hM2 h2 h3
  subst e1
  dsimp only
  refine t_ite (fun c => ?_) (fun c => ?_)
  · have c := (nI_leI (a := 20736) (by omega) (by omega)).mp c
    exact t_ret ⟨hM2, fun a' h => h2 a' (by omega), h3⟩
  · have c := mt (nI_leI (a := 20736) (b := a) (by omega) (by omega)).mpr c
    rw [show vp_nar .boolean 0 = 0 by decide]
    refine t_be (wI_n (by omega) (by omega)) ?_
    refine t_nx ?_ (by show 21000 - (nI a + 1).toInt.toNat < 21000 - (nI a).toInt.toNat; rw [nI_1, nIt (by omega), nIt (by omega)]; omega)
    dsimp only
    refine ⟨a + 1, nI_1 a, by omega, hM2.up (k := 85) rfl (lo := 0) (hi := 1) rfl (by decide) (by decide), fun a' h => ?_, fun k hk => ?_⟩
    · rw [gu_in]
      by_cases z : a' = a
      · rw [if_pos z]
      · rw [if_neg z]; exact h2 a' (by omega)
    · rw [g_up_row hk]; exact h3 k hk
/-- the code of a row -/
theorem n_projected74 {I : gM} {n s j J : Nat} {I0 : gM} (hM : MI false I0 I) (hG : GJ9 I) (hC : CT9 I) (hn : n ≤ 4) (en : I 62 17 = nI n) (ok : okW n (I 72) (I 70)) (hJ : J ≤ 20736) (eJ : I 62 26 = nI J) (hs16 : s < 16) (ha : ∀ l, l < 4 → s.testBit l = true → ask9 I n l) (hj : j < J) : ∃ c, c < 20736 ∧ lX9_projected_74 (nI s) (nI j) I (nI 0, nI 0) = some (nI c) := by
  have key : T (lX9_projected_74 (nI s) (nI j) I (nI 0, nI 0)) (fun r => ∃ c, r = nI c ∧ c < 20736) := by
    unfold lX9_projected_74
    refine t_it (P := fun x => ∃ c l, x = (nI c, nI l) ∧ l ≤ 4 ∧ c < 12 ^ l) (μ := fun x => 20 - x.2.toInt.toNat) (fun x p => ?_) ⟨0, 0, rfl, by omega, by decide⟩
    obtain ⟨c, l, rfl, h1, h2⟩ := p
    dsimp only
    have mu : 20 - (nI l + 1).toInt.toNat < 20 - (nI l).toInt.toNat := by rw [nI_1, nIt (by omega), nIt (by omega)]; omega
    have pw : 12 ^ (l + 1) = 12 * 12 ^ l := by rw [Nat.pow_succ, Nat.mul_comm]
    refine t_ite (fun c1 => ?_) (fun c1 => ?_)
    · have c1 := (nI_leI (a := 4) (by omega) (by omega)).mp c1
      obtain rfl : l = 4 := by omega
      exact t_ret (show ∃ c', nI c = nI c' ∧ c' < 20736 from ⟨c, rfl, h2⟩)
    · have c1 := mt (nI_leI (a := 4) (b := l) (by omega) (by omega)).mpr c1
      have p4 : 12 ^ l ≤ 12 ^ 4 := Nat.pow_le_pow_right (by omega) (by omega)
      by_cases b : s.testBit l = true
      · rw [n_has1 ((hs_nI hs16 (by omega)).mpr b), obs, if_neg (by decide), n_numberOf (by omega) (by omega), obs]
        have la := ha l (by omega) b
        have h0 := joined_nn hM hG hn en hJ eJ ok (by omega) la hj
        obtain ⟨m1, m2, m3⟩ := mx0_n (hM.at (k := 80) (j := 4 * j + l) (lo := -1) (hi := 99) rfl)
        rw [m3 h0, a100]
        refine t_be (rI_n (by omega) (by omega)) ?_
        obtain ⟨J', _, eJ', _, c3, _⟩ := hC
        obtain rfl := nI_inj (eJ'.symm.trans eJ) (by omega) (by omega)
        rw [c3 l (by omega) _ m2]
        have r1 := cd_12 hM hG hn en hJ eJ (l := l) (by omega) la (mx0 (I 80 (4 * j + l)) + 1)
        have r2 : cdJ (I 80) l J' (mx0 (I 80 (4 * j + l)) + 1) = cdJ (I 80) l J' (mx0 (I 80 (4 * j + l))) + (if 0 < cntJ (I 80) l (mx0 (I 80 (4 * j + l))) J' then 1 else 0) := rfl
        rw [if_pos (cntJ_has hj)] at r2
        rw [a12]
        unfold bX9_projected_118
        exact t_nx ⟨_, l + 1, by rw [nI_1], by omega, by rw [pw]; omega⟩ mu
      · rw [n_has0 (mt (hs_nI hs16 (by omega)).mp b), obs, if_pos rfl]
        unfold bX9_projected_118
        exact t_nx ⟨c, l + 1, by rw [nI_1], by omega, by rw [pw]; omega⟩ mu
  obtain ⟨r, e, c, rfl, hc⟩ := key
  exact ⟨c, hc, e⟩
theorem CT9.same {I r : gM} (h : CT9 I) (h26 : r 62 26 = I 62 26) (hk : ∀ k, k = 80 ∨ k = 82 ∨ k = 83 ∨ k = 84 → r k = I k) : CT9 r := by
  unfold CT9
  rw [h26, hk 80 (by omega), hk 82 (by omega), hk 83 (by omega), hk 84 (by omega)]; exact h
theorem n_projected {I0 I : gM} (hM : MI false I0 I) (hA : A9 I) (v1 : Int32) : T (fX9_projected v1 I) (fun r => MI false I0 r.2 ∧ A9 r.2) := by
  obtain ⟨n, hn, en⟩ := hM.tn
  unfold fX9_projected
  rw [n_areTables hn en, obs]
  by_cases c : n = 0
  · rw [if_pos c, if_pos rfl]; exact t_ret ⟨hM, hA⟩
  rw [if_neg c, if_neg (by decide)]
  have t15 : (15 : Int32).toInt = 15 := by decide
  rcases n_in v1 1 15 with ⟨h1, h2, h3⟩ | ⟨h1, h3⟩
  · rw [h3, obs, if_neg (by decide)]
    rw [t1i] at h1
    rw [t15] at h2
    have ev := nI_self (x := v1) (by omega)
    have s16 : v1.toInt.toNat < 16 := by omega
    generalize v1.toInt.toNat = s at ev s16
    subst ev
    obtain ⟨am, am1, ea, am2⟩ := n_asked hM hn en
    rw [ea, obs]
    refine t_ite (fun c2 => ?_) (fun c2 => t_ret ⟨hM, hA⟩)
    have sub := sub_bit s s16 am am1 c2
    obtain ⟨r0, e0, _, r1, r2, r3, r4⟩ := n_rowsNow hM
    refine t_bind (n_counts hM e0 r1 r2) (fun w pw => ?_)
    obtain ⟨w1, ⟨w2, w3⟩, w4⟩ := pw
    have wk : ∀ k, k = 70 ∨ k = 72 ∨ k = 73 ∨ k = 81 ∨ k = 89 → w k = I k := fun k hk => (w4 k (by omega) (by omega) (by omega)).trans (r3 k (by omega) (by omega) (by omega) (by omega) (by omega) (by omega) (by omega) (by omega))
    have wj : ∀ j, j ≠ 19 → j ≠ 26 → j ≠ 27 → w 62 j = I 62 j := fun j y1 y2 y3 => by rw [w4 62 (by omega) (by omega) (by omega)]; exact r4 j y1 y2 y3
    have Aw : A9 w := hA.same (wj 17 (by omega) (by omega) (by omega)) (wj 29 (by omega) (by omega) (by omega)) (wj 42 (by omega) (by omega) (by omega)) (fun k hk => wk k (by omega))
    have enw : w 62 17 = nI n := by rw [wj 17 (by omega) (by omega) (by omega)]; exact en
    obtain ⟨J, hJ, eJ⟩ := w1.n (k := 62) (j := 26) (hi := 20736) rfl
    refine t_bind (n_projected36 w1) (fun b pb => ?_)
    obtain ⟨b1, b2, b3⟩ := pb
    refine t_bind (P := fun q : Int32 × gM => MI false I0 q.2 ∧ ∀ k, k ≠ 85 → q.2 k = w k) ?_ (fun q pq => t_ret ⟨pq.1, Aw.same (by rw [pq.2 62 (by omega)]) (by rw [pq.2 62 (by omega)]) (by rw [pq.2 62 (by omega)]) (fun k hk => pq.2 k (by omega))⟩)
    unfold lX9_projected_60
    refine t_it (P := fun x => ∃ j, x.2.1 = nI j ∧ j ≤ J ∧ MI false I0 x.2.2 ∧ ∀ k, k ≠ 85 → x.2.2 k = w k) (μ := fun x => 20800 - x.2.1.toInt.toNat) (fun x p => ?_) ⟨0, rfl, by omega, b1, b3⟩
    obtain ⟨s1, s2, s3⟩ := x
    obtain ⟨j, e1, g1, hM2, g2⟩ := p
    dsimp only at e1 hM2 g2
    subst e1
    dsimp only
    have e26 : s3 62 26 = nI J := by rw [g2 62 (by omega)]; exact eJ
    refine t_ite (fun c3 => t_ret ⟨hM2, g2⟩) (fun c3 => ?_)
    rw [e26] at c3
    have c3 := mt (nI_leI (a := J) (b := j) (by omega) (by omega)).mpr c3
    obtain ⟨cd, cd1, cd2⟩ := n_projected74 (I := s3) (s := s) (j := j) hM2 (w2.same (by rw [g2 62 (by omega)]) (by rw [g2 62 (by omega)]) (fun k hk => g2 k (by omega))) (w3.same (by rw [g2 62 (by omega)]) (fun k hk => g2 k (by omega))) hn (by rw [g2 62 (by omega)]; exact enw) (by rw [g2 70 (by omega), g2 72 (by omega)]; exact okW_of Aw hn enw) hJ e26 s16 (fun l hl hb => ((am2 l hl).mp (sub l hl hb)).cong (by rw [g2 70 (by omega)]; exact wk 70 (by omega)) (by rw [g2 72 (by omega)]; exact wk 72 (by omega)) (by rw [g2 73 (by omega)]; exact wk 73 (by omega))) (by omega)
    refine t_be cd2 (t_be (rI_n (by omega) (by omega)) ?_)
    have nx : ∀ u : Int32, T (bX9_projected_142 (nI j) (nI cd) u s1 s3) (LQ (fun x => ∃ j, x.2.1 = nI j ∧ j ≤ J ∧ MI false I0 x.2.2 ∧ ∀ k, k ≠ 85 → x.2.2 k = w k) (20800 - (nI j).toInt.toNat) (fun x => 20800 - x.2.1.toInt.toNat) (fun q : Int32 × gM => MI false I0 q.2 ∧ ∀ k, k ≠ 85 → q.2 k = w k)) := fun u => by
      unfold bX9_projected_142
      rw [show vp_nar .boolean 1 = 1 by decide]
      refine t_be (wI_n (by omega) (by omega)) ?_
      refine t_nx ?_ (by show 20800 - (nI j + 1).toInt.toNat < 20800 - (nI j).toInt.toNat; rw [nI_1, nIt (by omega), nIt (by omega)]; omega)
      dsimp only
      exact ⟨j + 1, nI_1 j, by omega, hM2.up (k := 85) rfl (lo := 0) (hi := 1) rfl (by decide) (by decide), fun k hk => by rw [g_up_row hk]; exact g2 k hk⟩
    exact t_ite (fun _ => nx _) (fun _ => nx _)
  · rw [h3, obs, if_pos rfl]; exact t_ret ⟨hM, hA⟩
theorem n_most {I0 I : gM} (hM : MI false I0 I) (hA : A9 I) (v1 : Int32) : T (fX9_most v1 I) (fun r => MI false I0 r.2 ∧ A9 r.2) := by
  obtain ⟨n, hn, en⟩ := hM.tn
  unfold fX9_most
  rw [n_areTables hn en, obs]
  by_cases c : n = 0
  · rw [if_pos c, if_pos rfl]; exact t_ret ⟨hM, hA⟩
  rw [if_neg c, if_neg (by decide)]
  rcases n_in v1 0 6 with ⟨h1, h2, h3⟩ | ⟨h1, h3⟩
  · rw [h3, obs, if_neg (by decide)]
    obtain ⟨r, e, _, r1, r2, r3, r4⟩ := n_rowsNow hM
    have Ar := hA.join r3 r4
    refine t_be e ?_
    refine t_ite (fun _ => t_bind (tfX9_sumOfRows r r1) (fun _ _ => t_ret ⟨r1, Ar⟩)) (fun _ => ?_)
    have big : ∀ b : Int32, T (bX9_most_80 b r) (fun r => MI false I0 r.2 ∧ A9 r.2) := fun b => by
      unfold bX9_most_80
      exact t_bind (tfX9_greatestTable b r r1) (fun _ _ => t_ret ⟨r1, Ar⟩)
    refine t_ite (fun _ => t_ite (fun _ => big _) (fun _ => big _)) (fun _ => ?_)
    refine t_ite (fun _ => t_ite (fun _ => big _) (fun _ => big _)) (fun _ => ?_)
    refine t_ite (fun _ => t_bind (tfX9_notGiven r r1) (fun _ _ => t_ret ⟨r1, Ar⟩)) (fun _ => ?_)
    refine t_ite (fun _ => t_bind (n_couples r1 r2 Ar) (fun w pw => t_ret ⟨pw.1, Ar.same (by rw [pw.2 62 (by omega)]) (by rw [pw.2 62 (by omega)]) (by rw [pw.2 62 (by omega)]) (fun k hk => pw.2 k (by omega))⟩)) (fun _ => ?_)
    refine t_ite (fun _ => t_bindE (tfX9_joins 0 r r1 (by decide)) (fun w ew pw => t_ret ⟨pw.1, ?_⟩)) (fun _ => t_bindE (tfX9_triesOrders r r1) (fun w ew pw => t_ret ⟨pw, ?_⟩))
    · refine Ar.same ?_ ?_ ?_ (fun k hk => zfX9_joins 0 r ew k (by omega) (by omega) (by omega) (by omega) (by omega) (by omega) (by omega) (by omega))
      · exact xfX9_joins 0 r ew 62 17 (by omega) (by omega) (by omega) (by omega) (by omega) (by omega) (by omega) (by omega) (by omega) (by omega)
      · exact xfX9_joins 0 r ew 62 29 (by omega) (by omega) (by omega) (by omega) (by omega) (by omega) (by omega) (by omega) (by omega) (by omega)
      · exact xfX9_joins 0 r ew 62 42 (by omega) (by omega) (by omega) (by omega) (by omega) (by omega) (by omega) (by omega) (by omega) (by omega)
    · refine Ar.same ?_ ?_ ?_ (fun k hk => zfX9_triesOrders r ew k (by omega) (by omega) (by omega) (by omega) (by omega) (by omega) (by omega) (by omega))
      · exact xfX9_triesOrders r ew 62 17 (by omega) (by omega) (by omega) (by omega) (by omega) (by omega) (by omega) (by omega) (by omega) (by omega) (by omega) (by omega) (by omega)
      · exact xfX9_triesOrders r ew 62 29 (by omega) (by omega) (by omega) (by omega) (by omega) (by omega) (by omega) (by omega) (by omega) (by omega) (by omega) (by omega) (by omega)
      · exact xfX9_triesOrders r ew 62 42 (by omega) (by omega) (by omega) (by omega) (by omega) (by omega) (by omega) (by omega) (by omega) (by omega) (by omega) (by omega) (by omega)
  · rw [h3, obs, if_pos rfl]; exact t_ret ⟨hM, hA⟩
