/-! doubles: an end and no throw -/
theorem gb {α β : Type} {o : Option α} {f : α → Option β} {Q : β → Prop} (h : ∃ u, o = some u) (K : ∀ u, T (f u) Q) : T (o.bind f) Q := by
  obtain ⟨u, e⟩ := h
  exact t_be e (K u)
theorem gbp {α β : Type} {o : Option α} {f : α → Option β} {P : α → Prop} {Q : β → Prop} (h : ∃ u, o = some u ∧ P u) (K : ∀ u, P u → T (f u) Q) : T (o.bind f) Q := by
  obtain ⟨u, e, p⟩ := h
  exact t_be e (K u p)
theorem t_meanOf0 {I0 : gM} {k : Nat} (v2 : Int32) (I : gM) (hk : kX1 k) (hM : MI true I0 I) : T (fX0_meanOf k v2 I) (fun u => PD (dc u)) := by
  obtain ⟨m, m1, em⟩ := hM.n (k := k) (j := 0) (hi := 20736) hk.2.2.1
  unfold fX0_meanOf
  refine t_bind (P := fun u => PD (dc u)) ?_ (fun w pw => ?_)
  · unfold lX0_meanOf_5
    refine t_it (P := fun s => ∃ i, s.2 = nI i ∧ i ≤ m ∧ PD (dc s.1)) (μ := fun s => 20800 - s.2.toInt.toNat) (fun s p => ?_) ⟨0, rfl, by omega, pd_0⟩
    obtain ⟨s1, s2⟩ := s
    obtain ⟨i, e1, h1, h2⟩ := p
    dsimp only at e1 h2
    subst e1
    dsimp only
    refine t_ite (fun c => t_ret h2) (fun c => ?_)
    rw [em] at c
    have c := mt (nI_leI (a := m) (b := i) (by omega) (by omega)).mpr c
    refine t_bind (tfX1_numberAt k (nI i) v2 I hk hM) (fun r pr => ?_)
    refine gbp (p_dadd h2 (p_nn pr.1)) (fun u pu => ?_)
    exact t_nx ⟨i + 1, nI_1 i, by omega, pu⟩ (by show 20800 - (nI i + 1).toInt.toNat < 20800 - (nI i).toInt.toNat; rw [nI_1, nIt (by omega), nIt (by omega)]; omega)
  · refine t_ite (fun c => t_ret pd_0) (fun c => ?_)
    have c := mt (iLE (a := I k 0) (b := 0) rfl t0i).mpr c
    exact gbp (p_ddiv pw (p_pos (by omega))) (fun u pu => t_ret pu)
theorem t_spreadOf0 {I0 : gM} {k : Nat} (v2 : Int32) (I : gM) (hk : kX1 k) (hM : MI true I0 I) : T (fX0_spreadOf k v2 I) (fun _ => True) := by
  obtain ⟨m, m1, em⟩ := hM.n (k := k) (j := 0) (hi := 20736) hk.2.2.1
  unfold fX0_spreadOf
  refine t_bind (t_meanOf0 v2 I hk hM) (fun me pme => ?_)
  refine t_bind (P := fun u => PD (dc u)) ?_ (fun w pw => ?_)
  · unfold lX0_spreadOf_13
    refine t_it (P := fun s => ∃ i, s.2 = nI i ∧ i ≤ m ∧ PD (dc s.1)) (μ := fun s => 20800 - s.2.toInt.toNat) (fun s p => ?_) ⟨0, rfl, by omega, pd_0⟩
    obtain ⟨s1, s2⟩ := s
    obtain ⟨i, e1, h1, h2⟩ := p
    dsimp only at e1 h2
    subst e1
    dsimp only
    refine t_ite (fun c => t_ret h2) (fun c => ?_)
    rw [em] at c
    have c := mt (nI_leI (a := m) (b := i) (by omega) (by omega)).mpr c
    refine t_bind (tfX1_numberAt k (nI i) v2 I hk hM) (fun r pr => ?_)
    obtain ⟨c0, q0, e0, _⟩ := p_i2d r
    refine gbp (n_dsub ⟨_, c0, q0, e0⟩ (pd_nn pme)) (fun u pu => ?_)
    obtain ⟨a1, a2⟩ := abs_pd pu
    have nx : ∀ x, PD (dc x) → T (bX0_spreadOf_51 (nI i) x s1) (LQ (fun s => ∃ i, s.2 = nI i ∧ i ≤ m ∧ PD (dc s.1)) (20800 - (nI i).toInt.toNat) (fun s => 20800 - s.2.toInt.toNat) (fun u => PD (dc u))) := fun x px => by
      unfold bX0_spreadOf_51
      refine gbp (p_dadd h2 px) (fun u pu => ?_)
      exact t_nx ⟨i + 1, nI_1 i, by omega, pu⟩ (by show 20800 - (nI i + 1).toInt.toNat < 20800 - (nI i).toInt.toNat; rw [nI_1, nIt (by omega), nIt (by omega)]; omega)
    exact t_ite (fun c => nx _ (a1 c)) (fun c => nx _ (a2 c))
  · refine t_ite (fun c => t_ret trivial) (fun c => ?_)
    have c := mt (iLE (a := I k 0) (b := 0) rfl t0i).mpr c
    exact gbp (p_ddiv pw (p_pos (by omega))) (fun u pu => t_ret trivial)
theorem t_bitsOfDouble (x : UInt64) : T (fX0_bitsOfDouble x) (fun _ => True) := by
  unfold fX0_bitsOfDouble
  refine t_ite (fun c => ?_) (fun c => t_ret trivial)
  have px := gt0_pd (cmpv_l _ c)
  have t1022 : (1022 : Int32) = nI 1022 := rfl
  refine t_bind (P := fun w : UInt64 × Int32 => PD (dc w.1)) ?_ (fun w pw => ?_)
  · unfold lX0_bitsOfDouble_18
    refine t_it (P := fun s => ∃ i, s.2.2 = nI i ∧ i ≤ 1022 ∧ PD (dc s.1)) (μ := fun s => 1100 - s.2.2.toInt.toNat) (fun s p => ?_) ⟨0, rfl, by omega, px⟩
    obtain ⟨s1, s2, s3⟩ := s
    obtain ⟨i, e1, h1, h2⟩ := p
    dsimp only at e1 h2
    subst e1
    dsimp only
    refine t_ite (fun c => t_ret h2) (fun c => ?_)
    rw [t1022] at c
    have c := mt (nI_leI (a := 1022) (b := i) (by omega) (by omega)).mpr c
    refine t_ite (fun c => t_ret h2) (fun _ => ?_)
    refine gbp (p_ddiv h2 dc_2) (fun u pu => ?_)
    exact t_nx ⟨i + 1, nI_1 i, by omega, pu⟩ (by show 1100 - (nI i + 1).toInt.toNat < 1100 - (nI i).toInt.toNat; rw [nI_1, nIt (by omega), nIt (by omega)]; omega)
  · unfold bX0_bitsOfDouble_49
    refine t_bind (P := fun w : UInt64 × Int32 => PD (dc w.1)) ?_ (fun w pw => ?_)
    · unfold lX0_bitsOfDouble_52
      refine t_it (P := fun s => ∃ i, s.2.2 = nI i ∧ i ≤ 1022 ∧ PD (dc s.1)) (μ := fun s => 1100 - s.2.2.toInt.toNat) (fun s p => ?_) ⟨0, rfl, by omega, pw⟩
      obtain ⟨s1, s2, s3⟩ := s
      obtain ⟨i, e1, h1, h2⟩ := p
      dsimp only at e1 h2
      subst e1
      dsimp only
      refine t_ite (fun c => t_ret h2) (fun c => ?_)
      rw [t1022] at c
      have c := mt (nI_leI (a := 1022) (b := i) (by omega) (by omega)).mpr c
      refine t_ite (fun c => t_ret h2) (fun _ => ?_)
      refine gbp (p_dmul h2 dc_2) (fun u pu => ?_)
      exact t_nx ⟨i + 1, nI_1 i, by omega, pu⟩ (by show 1100 - (nI i + 1).toInt.toNat < 1100 - (nI i).toInt.toNat; rw [nI_1, nIt (by omega), nIt (by omega)]; omega)
    · unfold bX0_bitsOfDouble_81
      obtain ⟨d1, r1, e1, _⟩ := dc_1
      refine gbp (n_dsub2 pw ⟨_, d1, r1, e1⟩) (fun u pu => ?_)
      obtain ⟨d2, r2, e2, z2⟩ := dc_52
      exact gbp (n_dmul pu ⟨_, d2, r2, e2, z2⟩) (fun _ _ => t_ret trivial)
theorem t_bitsOfFloat (x : UInt32) : T (fX0_bitsOfFloat x) (fun _ => True) := by
  unfold fX0_bitsOfFloat
  refine t_ite (fun c => ?_) (fun c => t_ret trivial)
  exact gb (n_f2d (gt0_nn (cmpv_l _ c))) (fun u => t_bind (t_bitsOfDouble u) (fun _ _ => t_ret trivial))
theorem t_mean8 {I0 : gM} (v1 : Int32) (I : gM) (hM : MI true I0 I) : T (fX8_mean v1 I) (fun _ => True) := by
  unfold fX8_mean
  refine t_bind (tfX8_isAsked v1 I hM) (fun _ _ => t_ite (fun _ => t_ret trivial) (fun _ => t_ite (fun _ => t_ret trivial) (fun _ => ?_)))
  exact t_bind (t_meanOf0 v1 I kX1_18 hM) (fun u _ => t_bind (t_bitsOfDouble u) (fun _ _ => t_ret trivial))
theorem t_meanAs8 {I0 : gM} (v1 v2 : Int32) (I : gM) (hM : MI true I0 I) : T (fX8_meanAs v1 v2 I) (fun _ => True) := by
  unfold fX8_meanAs
  refine t_bind (tfX8_isAsked v1 I hM) (fun _ _ => t_ite (fun _ => t_ret trivial) (fun _ => t_ite (fun _ => t_ret trivial) (fun _ => t_ite (fun _ => t_ret trivial) (fun _ => t_ite (fun _ => ?_) (fun _ => t_ret trivial)))))
  refine t_bind (t_meanOf0 v1 I kX1_18 hM) (fun u pu => t_ite (fun _ => ?_) (fun _ => t_ret trivial))
  exact gb (n_d2f (pd_nn pu)) (fun u => t_bind (t_bitsOfFloat u) (fun _ _ => t_ret trivial))
theorem t_spread8 {I0 : gM} (v1 : Int32) (I : gM) (hM : MI true I0 I) : T (fX8_spread v1 I) (fun _ => True) := by
  unfold fX8_spread
  refine t_bind (tfX8_isAsked v1 I hM) (fun _ _ => t_ite (fun _ => t_ret trivial) (fun _ => t_ite (fun _ => t_ret trivial) (fun _ => ?_)))
  exact t_bind (t_spreadOf0 v1 I kX1_18 hM) (fun u _ => t_bind (t_bitsOfDouble u) (fun _ _ => t_ret trivial))
theorem t_skew8 {I0 : gM} (v1 : Int32) (I : gM) (hM : MI true I0 I) : T (fX8_skew v1 I) (fun r => MI true I0 r.2 ∧ ∀ k, k ≠ 41 → r.2 k = I k) := by
  unfold fX8_skew
  refine t_bind (tfX8_isAsked v1 I hM) (fun _ _ => t_ite (fun _ => t_ret ⟨hM, fun _ _ => rfl⟩) (fun _ => t_ite (fun _ => t_ret ⟨hM, fun _ _ => rfl⟩) (fun c => ?_)))
  refine t_bindE (tfX0_tallyUp 18 v1 I kX1_18 hM) (fun w ew pw => ?_)
  have wk : ∀ k, k ≠ 41 → w k = I k := fun k hk => zfX0_tallyUp 18 v1 I ew k hk
  refine t_bind (tfX0_oftenest w pw) (fun r _ => t_ite (fun _ => t_ret ⟨pw, wk⟩) (fun c1 => t_ite (fun c2 => ?_) (fun _ => t_ret ⟨pw, wk⟩)))
  have c1 := mt (iLT (a := r) (b := 0) rfl t0i).mpr c1
  have c2 := (iLT (a := r) (b := 100) rfl (by decide : (100 : Int32).toInt = 100)).mp c2
  have er := nI_self (x := r) (by omega)
  rw [er]
  refine t_be (rI_n (by omega) (by omega)) ?_
  obtain ⟨a1, b1, e1, _⟩ := p_i2f (w 41 r.toInt.toNat)
  obtain ⟨a2, b2, e2, z2⟩ := p_i2f (w 18 0)
  have nz : (w 18 0).toInt ≠ 0 := fun q => c (by rw [← wk 18 (by omega)]; exact Int32.toInt_inj.mp (q.trans t0i.symm))
  exact gb (n_fdiv ⟨_, a1, b1, e1⟩ ⟨_, a2, b2, e2, fun y => nz (z2.mpr y)⟩) (fun u => t_bind (t_bitsOfFloat u) (fun _ _ => t_ret ⟨pw, wk⟩))
/-! the reference's -/
theorem n_hasMean {I0 I : gM} (hM : MI false I0 I) (hA : A9 I) (v : Int32) : ∃ b r, fX9_hasMean v I = some (b, r) ∧ MI false I0 r ∧ A9 r ∧ (b = 0 ∨ (b = 1 ∧ fX9_joinsNow I = some r ∧ GJ9 r ∧ 0 < (r 62 26).toInt ∧ ∃ l, l < 4 ∧ v = nI l)) ∧ (∀ k, k ≠ 62 → k ≠ 74 → k ≠ 75 → k ≠ 76 → k ≠ 77 → k ≠ 78 → k ≠ 79 → k ≠ 80 → r k = I k) ∧ ∀ j, j ≠ 19 → j ≠ 26 → j ≠ 27 → r 62 j = I 62 j := by
  obtain ⟨n, hn, en⟩ := hM.tn
  unfold fX9_hasMean
  rcases n_isAsked hM hn en v with ⟨l, l4, rfl, la, _, e1⟩ | ⟨_, e1⟩
  · rw [e1, obs, if_neg (by decide)]
    obtain ⟨r, er, er2, r1, r2, r3, r4⟩ := n_rowsNow hM
    rw [er2, obs]
    dsimp only
    by_cases c : r 62 26 ≤ 0
    · rw [if_pos c]
      exact ⟨0, r, rfl, r1, hA.join r3 r4, Or.inl rfl, r3, r4⟩
    · rw [if_neg c]
      have c := mt (iLE (a := r 62 26) (b := 0) rfl t0i).mpr c
      exact ⟨1, r, rfl, r1, hA.join r3 r4, Or.inr ⟨rfl, er, r2, by omega, l, l4, rfl⟩, r3, r4⟩
  · rw [e1, obs, if_pos rfl]
    exact ⟨0, I, rfl, hM, hA, Or.inl rfl, fun _ _ _ _ _ _ _ _ _ => rfl, fun _ _ _ _ => rfl⟩
theorem t_meanOf9 {I0 I : gM} (hM : MI false I0 I) {l : Nat} (hl : l < 4) (h : 0 < (I 62 26).toInt) : T (fX9_meanOf (nI l) I) (fun u => dc u ≠ .nan) := by
  obtain ⟨J, hJ, eJ⟩ := hM.n (k := 62) (j := 26) (hi := 20736) rfl
  unfold fX9_meanOf
  refine t_bind (P := fun _ => True) ?_ (fun w _ => ?_)
  · unfold lX9_meanOf_5
    refine t_it (P := fun s => ∃ i, s.2 = nI i ∧ i ≤ J) (μ := fun s => 20800 - s.2.toInt.toNat) (fun s p => ?_) ⟨0, rfl, by omega⟩
    obtain ⟨s1, s2⟩ := s
    obtain ⟨i, e1, h1⟩ := p
    dsimp only at e1
    subst e1
    dsimp only
    refine t_ite (fun c => t_ret trivial) (fun c => ?_)
    rw [eJ] at c
    have c := mt (nI_leI (a := J) (b := i) (by omega) (by omega)).mpr c
    rw [n_numberOf (by omega) hl, obs]
    exact t_nx ⟨i + 1, nI_1 i, by omega⟩ (by show 20800 - (nI i + 1).toInt.toNat < 20800 - (nI i).toInt.toNat; rw [nI_1, nIt (by omega), nIt (by omega)]; omega)
  · obtain ⟨d, r, e, z⟩ := p_pos h
    exact gbp (n_ddiv (p_l2d w) ⟨_, d, r, e, z⟩) (fun u pu => t_ret pu)
theorem t_dBits (x : UInt64) : T (fJxe99ae_doubleToLongBits_ccdee x) (fun _ => True) := by
  unfold fJxe99ae_doubleToLongBits_ccdee fJxe99ae_isNaN_b9ae7
  refine t_bind (P := fun _ => True) (t_ite (fun _ => t_ret trivial) (fun _ => t_ret trivial)) (fun _ _ => t_ite (fun _ => t_ret trivial) (fun _ => t_ret trivial))
theorem t_fBits (x : UInt32) : T (fJxf58ca_floatToIntBits_5c35a x) (fun _ => True) := by
  unfold fJxf58ca_floatToIntBits_5c35a fJxf58ca_isNaN_12338
  refine t_bind (P := fun _ => True) (t_ite (fun _ => t_ret trivial) (fun _ => t_ret trivial)) (fun _ _ => t_ite (fun _ => t_ret trivial) (fun _ => t_ret trivial))
theorem t_mean9 {I0 I : gM} (hM : MI false I0 I) (hA : A9 I) (v : Int32) : T (fX9_mean v I) (fun r => MI false I0 r.2 ∧ A9 r.2) := by
  obtain ⟨b, r, e, r1, r2, hb, _⟩ := n_hasMean hM hA v
  unfold fX9_mean
  refine t_be e (t_ite (fun _ => t_ret ⟨r1, r2⟩) (fun c => ?_))
  rcases hb with z | ⟨_, _, _, h, l, l4, rfl⟩
  · exact absurd z c
  · exact t_bind (t_meanOf9 r1 l4 h) (fun u _ => t_bind (t_dBits u) (fun _ _ => t_ret ⟨r1, r2⟩))
theorem t_meanAs9 {I0 I : gM} (hM : MI false I0 I) (hA : A9 I) (v v2 : Int32) : T (fX9_meanAs v v2 I) (fun r => MI false I0 r.2 ∧ A9 r.2) := by
  obtain ⟨b, r, e, r1, r2, hb, _⟩ := n_hasMean hM hA v
  unfold fX9_meanAs
  rcases n_in v2 0 1 with ⟨_, _, h3⟩ | ⟨_, h3⟩
  · rw [h3, obs, if_neg (by decide)]
    refine t_be e (t_ite (fun _ => t_ret ⟨r1, r2⟩) (fun c => ?_))
    rcases hb with z | ⟨_, _, _, h, l, l4, rfl⟩
    · exact absurd z c
    · refine t_ite (fun _ => ?_) (fun _ => t_bind (t_meanOf9 r1 l4 h) (fun u _ => t_ret ⟨r1, r2⟩))
      exact t_bind (t_meanOf9 r1 l4 h) (fun u pu => gb (n_d2f pu) (fun w => t_bind (t_fBits w) (fun _ _ => t_ret ⟨r1, r2⟩)))
  · rw [h3, obs, if_pos rfl]; exact t_ret ⟨hM, hA⟩
theorem t_spread9 {I0 I : gM} (hM : MI false I0 I) (hA : A9 I) (v : Int32) : T (fX9_spread v I) (fun r => MI false I0 r.2 ∧ A9 r.2) := by
  obtain ⟨b, r, e, r1, r2, hb, _⟩ := n_hasMean hM hA v
  unfold fX9_spread
  refine t_be e (t_ite (fun _ => t_ret ⟨r1, r2⟩) (fun c => ?_))
  rcases hb with z | ⟨_, _, _, h, l, l4, rfl⟩
  · exact absurd z c
  · obtain ⟨J, hJ, eJ⟩ := r1.n (k := 62) (j := 26) (hi := 20736) rfl
    refine t_bind (t_meanOf9 r1 l4 h) (fun me pme => ?_)
    refine t_bind (P := fun u => PD (dc u)) ?_ (fun w pw => ?_)
    · unfold lX9_spread_24
      refine t_it (P := fun s => ∃ i, s.2 = nI i ∧ i ≤ J ∧ PD (dc s.1)) (μ := fun s => 20800 - s.2.toInt.toNat) (fun s p => ?_) ⟨0, rfl, by omega, pd_0⟩
      obtain ⟨s1, s2⟩ := s
      obtain ⟨i, e1, h1, h2⟩ := p
      dsimp only at e1 h2
      subst e1
      dsimp only
      refine t_ite (fun c => t_ret h2) (fun c => ?_)
      rw [eJ] at c
      have c := mt (nI_leI (a := J) (b := i) (by omega) (by omega)).mpr c
      rw [n_numberOf (by omega) l4, obs]
      obtain ⟨c0, q0, e0, _⟩ := p_i2d (r 80 (4 * i + l))
      refine gbp (n_dsub ⟨_, c0, q0, e0⟩ pme) (fun u pu => ?_)
      obtain ⟨a1, a2⟩ := abs_pd pu
      have nx : ∀ x, PD (dc x) → T (bX9_spread_62 (nI i) x s1) (LQ (fun s => ∃ i, s.2 = nI i ∧ i ≤ J ∧ PD (dc s.1)) (20800 - (nI i).toInt.toNat) (fun s => 20800 - s.2.toInt.toNat) (fun u => PD (dc u))) := fun x px => by
        unfold bX9_spread_62
        refine gbp (p_dadd h2 px) (fun u pu => ?_)
        exact t_nx ⟨i + 1, nI_1 i, by omega, pu⟩ (by show 20800 - (nI i + 1).toInt.toNat < 20800 - (nI i).toInt.toNat; rw [nI_1, nIt (by omega), nIt (by omega)]; omega)
      exact t_ite (fun c => nx _ (a1 c)) (fun c => nx _ (a2 c))
    · exact gbp (p_ddiv pw (p_pos h)) (fun u _ => t_bind (t_dBits u) (fun _ _ => t_ret ⟨r1, r2⟩))
/-- one that is there has a most frequent number -/
theorem n_extremeOf {I0 I : gM} (hM : MI false I0 I) (hC : CT9 I) {l : Nat} (hl : l < 4) (h : 0 < (I 62 26).toInt) : ∃ v, v < 100 ∧ fX9_extremeOf (nI l) 3 I = some (nI v) := by
  obtain ⟨J, hJ, eJ, c1, _⟩ := hC
  have J0 : 0 < J := by
    rw [eJ, tnI (by omega)] at h; omega
  obtain ⟨m1, m2, _⟩ := mx0_n (hM.at (k := 80) (j := 4 * 0 + l) (lo := -1) (hi := 99) rfl)
  have pos := cntJ_has (K := I 80) (l := l) (j := 0) J0
  have key : T (lX9_extremeOf_5 (nI l) 3 I (-1, nI 0)) (fun r => ∃ v, v < 100 ∧ r = nI v) := by
    unfold lX9_extremeOf_5
    refine t_it (P := fun s => ∃ v, s.2 = nI v ∧ v ≤ 100 ∧ ((s.1 = -1 ∧ ∀ v', v' < v → cntJ (I 80) l v' J = 0) ∨ ∃ b, b < 100 ∧ s.1 = nI b)) (μ := fun s => 200 - s.2.toInt.toNat) (fun s p => ?_) ⟨0, rfl, by omega, Or.inl ⟨rfl, fun v' h => by omega⟩⟩
    obtain ⟨s1, s2⟩ := s
    obtain ⟨v, e1, h1, h2⟩ := p
    dsimp only at e1 h2
    subst e1
    dsimp only
    refine t_ite (fun c => ?_) (fun c => ?_)
    · have c := (nI_leI (a := 100) (by omega) (by omega)).mp c
      rcases h2 with ⟨_, z⟩ | z
      · have := z (mx0 (I 80 (4 * 0 + l))) (by omega)
        omega
      · obtain ⟨b, b1, b2⟩ := z
        exact t_ret (show ∃ v, v < 100 ∧ s1 = nI v from ⟨b, b1, b2⟩)
    · have c := mt (nI_leI (a := 100) (b := v) (by omega) (by omega)).mpr c
      have cl := cntJ_le (I 80) l v J
      have mu : 200 - (nI v + 1).toInt.toNat < 200 - (nI v).toInt.toNat := by rw [nI_1, nIt (by omega), nIt (by omega)]; omega
      rw [a100]
      refine t_be (rI_n (by omega) (by omega)) ?_
      rw [c1 l hl v (by omega)]
      have keep : T (bX9_extremeOf_67 s1 (nI v) 1) (LQ (fun s => ∃ v, s.2 = nI v ∧ v ≤ 100 ∧ ((s.1 = -1 ∧ ∀ v', v' < v → cntJ (I 80) l v' J = 0) ∨ ∃ b, b < 100 ∧ s.1 = nI b)) (200 - (nI v).toInt.toNat) (fun s => 200 - s.2.toInt.toNat) (fun r => ∃ v, v < 100 ∧ r = nI v)) := by
        unfold bX9_extremeOf_67
        rw [if_neg (by decide)]
        exact t_nx ⟨v + 1, nI_1 v, by omega, Or.inr ⟨v, by omega, rfl⟩⟩ mu
      have pass : ((s1 = -1 ∧ ∀ v', v' < v + 1 → cntJ (I 80) l v' J = 0) ∨ ∃ b, b < 100 ∧ s1 = nI b) → T (bX9_extremeOf_67 s1 (nI v) 0) (LQ (fun s => ∃ v, s.2 = nI v ∧ v ≤ 100 ∧ ((s.1 = -1 ∧ ∀ v', v' < v → cntJ (I 80) l v' J = 0) ∨ ∃ b, b < 100 ∧ s.1 = nI b)) (200 - (nI v).toInt.toNat) (fun s => 200 - s.2.toInt.toNat) (fun r => ∃ v, v < 100 ∧ r = nI v)) := fun q => by
        unfold bX9_extremeOf_67
        rw [if_pos rfl]
        exact t_nx ⟨v + 1, nI_1 v, by omega, q⟩ mu
      refine t_ite (fun c2 => ?_) (fun c2 => ?_)
      · have c2 := (nI_leI (b := 0) (by omega) (by omega)).mp c2
        refine pass ?_
        rcases h2 with ⟨z1, z2⟩ | z
        · refine Or.inl ⟨z1, fun v' hv' => ?_⟩
          rcases (by omega : v' < v ∨ v' = v) with y | y
          · exact z2 v' y
          · rw [y]; omega
        · exact Or.inr z
      · refine t_ite (fun c3 => keep) (fun c3 => ?_)
        rw [if_neg (show ¬ (3 : Int32) = 2 by decide), if_pos rfl]
        obtain ⟨b, b1, b2⟩ := h2.resolve_left (fun z => c3 z.1)
        subst b2
        rw [a100]
        refine t_be (rI_n (by omega) (by omega)) ?_
        exact t_ite (fun _ => pass (Or.inr ⟨b, b1, rfl⟩)) (fun _ => keep)
  obtain ⟨r, e, v, v1, rfl⟩ := key
  refine ⟨v, v1, ?_⟩
  unfold fX9_extremeOf
  rw [L0, e, obs]
theorem t_skew9 {I0 I : gM} (hM : MI false I0 I) (hA : A9 I) (v : Int32) : T (fX9_skew v I) (fun r => MI false I0 r.2 ∧ A9 r.2) := by
  obtain ⟨b, r, e, r1, r2, hb, fk, fj⟩ := n_hasMean hM hA v
  unfold fX9_skew
  refine t_be e (t_ite (fun _ => t_ret ⟨r1, r2⟩) (fun c => ?_))
  rcases hb with z | ⟨_, er, _, h, l, l4, rfl⟩
  · exact absurd z c
  · obtain ⟨r0, e0, _, a1, a2, a3, a4⟩ := n_rowsNow r1
    refine t_bind (n_counts r1 e0 a1 a2) (fun w pw => ?_)
    obtain ⟨w1, ⟨w2, w3⟩, w4⟩ := pw
    have hp : 0 < (r0 62 26).toInt := by
      obtain ⟨o, ho, eo⟩ := hM.n (k := 70) (j := 1) (hi := 23) rfl
      have e70 : r 70 = I 70 := fk 70 (by omega) (by omega) (by omega) (by omega) (by omega) (by omega) (by omega) (by omega)
      have j1 : fX9_joins (nI o) I = some r := by
        unfold fX9_joinsNow at er
        rw [show rI 331 (I 70) 1 = some (I 70 1) from rI_n (a := 1) (by omega) (by omega), obs, eo] at er
        obtain ⟨q, q1, q2⟩ := ob er
        rw [q1]; exact q2
      have j2 : fX9_joins (nI o) r = some r0 := by
        unfold fX9_joinsNow at e0
        rw [show rI 331 (r 70) 1 = some (r 70 1) from rI_n (a := 1) (by omega) (by omega), obs, e70, eo] at e0
        obtain ⟨q, q1, q2⟩ := ob e0
        rw [q1]; exact q2
      exact joins_pos hM r1 (by omega) (fj 17 (by omega) (by omega) (by omega)) e70 (fk 72 (by omega) (by omega) (by omega) (by omega) (by omega) (by omega) (by omega) (by omega)) (fk 73 (by omega) (by omega) (by omega) (by omega) (by omega) (by omega) (by omega) (by omega)) j1 j2 h
    have hw : 0 < (w 62 26).toInt := by rw [w4 62 (by omega) (by omega) (by omega)]; exact hp
    have Aw : A9 w := r2.same (by rw [w4 62 (by omega) (by omega) (by omega)]; exact a4 17 (by omega) (by omega) (by omega)) (by rw [w4 62 (by omega) (by omega) (by omega)]; exact a4 29 (by omega) (by omega) (by omega)) (by rw [w4 62 (by omega) (by omega) (by omega)]; exact a4 42 (by omega) (by omega) (by omega)) (fun k hk => by rw [w4 k (by omega) (by omega) (by omega)]; exact a3 k (by omega) (by omega) (by omega) (by omega) (by omega) (by omega) (by omega) (by omega))
    obtain ⟨x, x1, x2⟩ := n_extremeOf w1 w3 l4 hw
    refine t_be x2 ?_
    rw [a100]
    refine t_be (rI_n (by omega) (by omega)) ?_
    obtain ⟨c1, d1, e1, _⟩ := p_i2f (w 82 (100 * l + x))
    obtain ⟨c2, d2, e2, z2⟩ := p_i2f (w 62 26)
    exact gb (n_fdiv ⟨_, c1, d1, e1⟩ ⟨_, c2, d2, e2, fun y => by have := z2.mpr y; omega⟩) (fun u => t_bind (t_fBits u) (fun _ _ => t_ret ⟨w1, Aw⟩))
