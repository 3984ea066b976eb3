/-! the reference: what is called for -/
theorem n_hand {I0 I : gM} (hM : MI false I0 I) (hA : A9 I) (s a x y z : Int32) : T (fX9_hand s a x y z I) (fun r => MI false I0 r.2 ∧ A9 r.2) := by
  obtain ⟨n, hn, en⟩ := hM.tn
  obtain ⟨A, hA4, eA⟩ := hM.n (k := 62) (j := 29) (hi := 40) rfl
  obtain ⟨L, hL, eL⟩ := hM.n (k := 70) (j := 150) (hi := 60) rfl
  unfold fX9_hand
  refine t_bindE (tfX9_whyNot s a x y z I hM) (fun v ev pv => ?_)
  have pv : -1 ≤ v.toInt ∧ v.toInt ≤ 3 := pv
  refine t_ite (fun c => ?_) (fun c => ?_)
  · rw [c] at ev
    obtain ⟨w', hw'⟩ := n_can hM hn en ev
    obtain ⟨I9, rj, v', r, j1, j2, e, r1, r2, _⟩ := n_act hM hA hn en hA4 eA hL eL hw'
    exact t_be e (t_ret ⟨r1, r2⟩)
  · have m1 : ((-1) : Int32).toInt = -1 := by decide
    have h0 : 0 ≤ v.toInt := by
      have : ¬ v.toInt = -1 := fun q => c (Int32.toInt_inj.mp (q.trans m1.symm))
      omega
    have e := nI_self h0
    rw [e]
    refine t_be (rI_n (by omega) (by omega)) (t_be (wI_n (by omega) (by omega)) (t_ret ⟨hM.up (k := 71) rfl (lo := -2147483648) (hi := 2147483647) rfl (tTop _).1 (tTop _).2, ?_⟩))
    have f62 : g_up I 71 v.toInt.toNat (I 71 v.toInt.toNat + 1) 62 = I 62 := g_up_row (by omega)
    exact hA.same (by dsimp only; rw [f62]) (by dsimp only; rw [f62]) (by dsimp only; rw [f62]) (fun k hk => g_up_row (by omega))
theorem n_put {I0 I : gM} (hM : MI false I0 I) (hA : A9 I) (a x y z : Int32) : T (fX9_put a x y z I) (fun r => MI false I0 r.2 ∧ A9 r.2) := by
  unfold fX9_put; exact t_bind (n_hand hM hA _ _ _ _ _) (fun r h => t_ret h)
theorem n_take {I0 I : gM} (hM : MI false I0 I) (hA : A9 I) (a x y z : Int32) : T (fX9_take a x y z I) (fun r => MI false I0 r.2 ∧ A9 r.2) := by
  unfold fX9_take; exact t_bind (n_hand hM hA _ _ _ _ _) (fun r h => t_ret h)
theorem n_use {I0 I : gM} (hM : MI false I0 I) (hA : A9 I) (a : Int32) : T (fX9_use a I) (fun r => MI false I0 r.2 ∧ A9 r.2) := by
  unfold fX9_use; exact t_bind (n_hand hM hA _ _ _ _ _) (fun r h => t_ret h)
theorem n_order {I0 I : gM} (hM : MI false I0 I) (hA : A9 I) (a : Int32) : T (fX9_order a I) (fun r => MI false I0 r.2 ∧ A9 r.2) := by
  unfold fX9_order; exact t_bind (n_hand hM hA _ _ _ _ _) (fun r h => t_ret h)
theorem n_tryOne {I0 I : gM} (hM : MI false I0 I) (hA : A9 I) (s a x y z : Int32) : T (fX9_tryOne s a x y z I) (fun r => MI false I0 r ∧ A9 r ∧ r 62 17 = I 62 17 ∧ r 72 = I 72 ∧ r 68 = I 68 ∧ r 69 = I 69) := by
  obtain ⟨n, hn, en⟩ := hM.tn
  obtain ⟨A, hA4, eA⟩ := hM.n (k := 62) (j := 29) (hi := 40) rfl
  obtain ⟨L, hL, eL⟩ := hM.n (k := 70) (j := 150) (hi := 60) rfl
  unfold fX9_tryOne
  refine t_bindE (tfX9_whyNot s a x y z I hM) (fun v ev pv => ?_)
  refine t_ite (fun c => ?_) (fun c => ?_)
  · rw [c] at ev
    obtain ⟨w', hw'⟩ := n_can hM hn en ev
    obtain ⟨I9, rj, v', r, j1, j2, e, r1, r2, _, _, _, _, _, _, _, f1, f2, _⟩ := n_act hM hA hn en hA4 eA hL eL hw'
    exact t_be e (t_ret ⟨r1, r2, f1 17 (by omega) (by omega) (by omega) (by omega), f2 72 (by omega) (by omega) (by omega) (by omega) (by omega) (by omega) (by omega) (by omega) (by omega) (by omega), f2 68 (by omega) (by omega) (by omega) (by omega) (by omega) (by omega) (by omega) (by omega) (by omega) (by omega), f2 69 (by omega) (by omega) (by omega) (by omega) (by omega) (by omega) (by omega) (by omega) (by omega) (by omega)⟩)
  · exact t_ret ⟨hM, hA, rfl, rfl, rfl, rfl⟩
/-! draws -/
theorem lU_33 (x : Int64) : ∃ q : Nat, q < 2 ^ 31 ∧ (lU x 33).toInt = (q : Int) := by
  have h : ((33 : Int32).toInt64.toUInt64 &&& Int64.toUInt64 63) = 33 := by decide
  unfold lU
  rw [h]
  have h2 : (x.toUInt64 >>> 33).toNat = x.toUInt64.toNat / 2 ^ 33 := by
    rw [UInt64.toNat_shiftRight, Nat.shiftRight_eq_div_pow]; rfl
  have h3 : x.toUInt64.toNat < 2 ^ 64 := x.toUInt64.toNat_lt
  refine ⟨(x.toUInt64 >>> 33).toNat, ?_, ?_⟩
  · rw [h2]; omega
  · show ((x.toUInt64 >>> 33).toBitVec).toInt = _
    have h4 : (x.toUInt64 >>> 33).toBitVec.toNat = (x.toUInt64 >>> 33).toNat := rfl
    rw [BitVec.toInt_eq_toNat_of_lt (by rw [h4, h2]; omega), h4]
theorem n_lM {a : Int64} {q m : Nat} (ha : a.toInt = (q : Int)) (hq : q < 2 ^ 31) (hm : 0 < m) (hm2 : m < 2 ^ 31) : ∃ u, lM a (nI m).toInt64 = some u ∧ u.toInt32 = nI (q % m) := by
  have hb : ((nI m).toInt64).toInt = (m : Int) := by rw [Int32.toInt_toInt64, tnI hm2]
  have hn : ¬ (nI m).toInt64 = 0 := fun e => by
    rw [e] at hb
    have : (0 : Int64).toInt = 0 := by decide
    omega
  refine ⟨_, if_neg hn, ?_⟩
  have d1 : (a / (nI m).toInt64).toInt = ((q / m : Nat) : Int) := by
    rw [Int64.toInt_div, ha, hb, Int.tdiv_eq_ediv_of_nonneg (by omega)]
    have : q / m ≤ q := Nat.div_le_self q m
    have h0 : 0 ≤ ((q : Int) / (m : Int)) := Int.ediv_nonneg (by omega) (by omega)
    rw [show ((q : Int) / (m : Int)) = ((q / m : Nat) : Int) from rfl]
    exact Int.bmod_eq_of_le (by omega) (by omega)
  have d2 : (a / (nI m).toInt64 * (nI m).toInt64).toInt = ((q / m * m : Nat) : Int) := by
    rw [Int64.toInt_mul, d1, hb]
    have : q / m * m ≤ q := Nat.div_mul_le_self q m
    rw [show ((q / m : Nat) : Int) * (m : Int) = ((q / m * m : Nat) : Int) by rw [Int.natCast_mul]]
    exact Int.bmod_eq_of_le (by omega) (by omega)
  have d3 : (a - a / (nI m).toInt64 * (nI m).toInt64).toInt = ((q % m : Nat) : Int) := by
    rw [Int64.toInt_sub, ha, d2]
    have h1 := Nat.div_add_mod q m
    rw [Nat.mul_comm] at h1
    rw [show ((q : Int) - ((q / m * m : Nat) : Int)) = ((q % m : Nat) : Int) by omega]
    have : q % m ≤ q := Nat.mod_le q m
    exact Int.bmod_eq_of_le (by omega) (by omega)
  apply Int32.toInt_inj.mp
  have : q % m ≤ q := Nat.mod_le q m
  rw [Int64.toInt_toInt32, d3, tnI (by omega)]
  exact Int.bmod_eq_of_le (by omega) (by omega)
/-- the draw behind x -/
def dr9 (x : Int64) : Int64 := x * 6364136223846793005 + 1442695040888963407
theorem n_draw (J : gN) {m : Nat} (hm : 0 < m) (hm2 : m < 2 ^ 31) : ∃ k J', k < m ∧ fX9_draw (nI m) J = some (nI k, J') ∧ J' = g_up J 62 30 (dr9 (J 62 30)) := by
  obtain ⟨q, q1, q2⟩ := lU_33 (dr9 (J 62 30))
  obtain ⟨u, u1, u2⟩ := n_lM q2 q1 hm hm2
  refine ⟨q % m, _, Nat.mod_lt _ hm, ?_, rfl⟩
  unfold fX9_draw
  rw [pU_n, obs, g_up_self, show (J 62 30 * 6364136223846793005 + 1442695040888963407) = dr9 (J 62 30) from rfl, u1, obs, u2]
theorem n_drawWay {I0 I : gM} (hM : MI false I0 I) (hA : A9 I) {n : Nat} (h0 : 0 < n) (hn : n ≤ 4) (en : I 62 17 = nI n) (J : gN) : T (fX9_drawWay I J) (fun r => MI false I0 r.1 ∧ A9 r.1 ∧ r.1 62 17 = nI n) := by
  have fin : ∀ (s a x y z : Int32) (J1 : gN), T ((fX9_tryOne s a x y z I).bind fun r => some (r, J1)) (fun r => MI false I0 r.1 ∧ A9 r.1 ∧ r.1 62 17 = nI n) := fun s a x y z J1 =>
    t_bind (n_tryOne hM hA s a x y z) (fun r h => t_ret ⟨h.1, h.2.1, h.2.2.1.trans en⟩)
  unfold fX9_drawWay
  obtain ⟨k1, J1, kl1, e1, _⟩ := n_draw J (m := 8) (by omega) (by omega)
  refine t_be e1 ?_
  dsimp only
  refine t_ite (fun c => ?_) (fun c => ?_)
  · obtain ⟨k2, J2, kl2, e2, _⟩ := n_draw J1 (m := 24) (by omega) (by omega)
    refine t_be e2 ?_
    exact fin _ _ _ _ _ _
  · obtain ⟨t, J2, kt, e2, _⟩ := n_draw J1 (m := n) h0 (by omega)
    rw [en]
    refine t_be e2 ?_
    dsimp only
    refine t_ite (fun c2 => ?_) (fun c2 => ?_)
    · refine t_ite (fun c3 => ?_) (fun c3 => ?_)
      · exact fin _ _ _ _ _ _
      · obtain ⟨i, J3, ki, e3, _⟩ := n_draw J2 (m := 12) (by omega) (by omega)
        refine t_be e3 ?_
        dsimp only
        obtain ⟨m, m12, em⟩ := hM.n (k := 70) (j := 2 + t) (hi := 12) (rgN_m (by omega))
        rw [n_many (by omega), obs, em]
        refine t_ite (fun c4 => ?_) (fun c4 => ?_)
        · exact t_ret ⟨hM, hA, en⟩
        · have c4 := mt (nI_leI (a := m) (b := i) (by omega) (by omega)).mpr c4
          rw [n_rowAt, obs, L1, L2, nI_add, nI_add]
          refine t_be (rI_n (by omega) (by omega)) (t_be (rI_n (by omega) (by omega)) (t_be (rI_n (by omega) (by omega)) ?_))
          exact fin _ _ _ _ _ _
    · obtain ⟨x, J3, kx, e3, _⟩ := n_draw J2 (m := 6) (by omega) (by omega)
      refine t_be e3 ?_
      dsimp only
      have last : ∀ (y : Int32) (J4 : gN), T (bX9_drawWay_69 (nI t) (nI x) y I J4) (fun r => MI false I0 r.1 ∧ A9 r.1 ∧ r.1 62 17 = nI n) := fun y J4 => by
        unfold bX9_drawWay_69
        refine t_be (rI_n (by omega) (by omega)) ?_
        refine t_ite (fun c5 => ?_) (fun c5 => ?_)
        · unfold bX9_drawWay_97; exact fin _ _ _ _ _ _
        · obtain ⟨z, J5, kz, e5, _⟩ := n_draw J4 (m := 6) (by omega) (by omega)
          refine t_be e5 ?_
          unfold bX9_drawWay_97; exact fin _ _ _ _ _ _
      refine t_be (rI_n (by omega) (by omega)) ?_
      refine t_ite (fun c5 => ?_) (fun c5 => ?_)
      · exact last _ _
      · obtain ⟨y, J4, ky, e4, _⟩ := n_draw J3 (m := 6) (by omega) (by omega)
        refine t_be e4 ?_
        exact last _ _
theorem n_ways27 {I0 I : gM} (hM : MI false I0 I) (hA : A9 I) {n : Nat} (h0 : 0 < n) (hn : n ≤ 4) (en : I 62 17 = nI n) (J : gN) {v1 : Int32} (hv : 1 ≤ v1.toInt ∧ v1.toInt ≤ 40) : T (lX9_ways_27 v1 (nI 0, I, J)) (fun r => MI false I0 r.1 ∧ A9 r.1 ∧ r.1 62 17 = nI n) := by
  unfold lX9_ways_27
  refine t_it (P := fun s => ∃ k, s.1 = nI k ∧ k ≤ 40 ∧ MI false I0 s.2.1 ∧ A9 s.2.1 ∧ s.2.1 62 17 = nI n) (μ := fun s => 50 - s.1.toInt.toNat) (fun s p => ?_) ⟨0, rfl, by omega, hM, hA, en⟩
  obtain ⟨s1, I1, J1⟩ := s
  obtain ⟨k, e1, h1, hM2, h2, h3⟩ := p
  dsimp only at e1 hM2 h2 h3
  subst e1
  dsimp only
  refine t_ite (fun c => ?_) (fun c => ?_)
  · exact t_ret ⟨hM2, h2, h3⟩
  · have c := mt (iLE (a := v1) (b := nI k) rfl (tnI (by omega))).mpr c
    refine t_bind (n_drawWay hM2 h2 h0 hn h3 J1) (fun r h => ?_)
    refine t_nx ?_ (by show 50 - (nI k + 1).toInt.toNat < 50 - (nI k).toInt.toNat; rw [nI_1, nIt (by omega), nIt (by omega)]; omega)
    exact ⟨k + 1, nI_1 k, by omega, h⟩
theorem A9.join {I r : gM} (h : A9 I) (hk : ∀ k, k ≠ 62 → k ≠ 74 → k ≠ 75 → k ≠ 76 → k ≠ 77 → k ≠ 78 → k ≠ 79 → k ≠ 80 → r k = I k) (hj : ∀ j, j ≠ 19 → j ≠ 26 → j ≠ 27 → r 62 j = I 62 j) : A9 r :=
  h.same (hj 17 (by omega) (by omega) (by omega)) (hj 29 (by omega) (by omega) (by omega)) (hj 42 (by omega) (by omega) (by omega)) (fun k q => hk k (by omega) (by omega) (by omega) (by omega) (by omega) (by omega) (by omega) (by omega))
theorem n_ways {I0 I : gM} (hM : MI false I0 I) (hA : A9 I) (v1 : Int32) (v2 : Int64) (J : gN) : T (fX9_ways v1 v2 I J) (fun r => MI false I0 r.2.1 ∧ A9 r.2.1) := by
  obtain ⟨n, hn, en⟩ := hM.tn
  unfold fX9_ways
  rw [n_areTables hn en, obs]
  by_cases c : n = 0
  · rw [if_pos c, if_pos rfl]
    exact t_ret ⟨hM, hA⟩
  · rw [if_neg c, if_neg (by decide)]
    have t40 : (40 : Int32).toInt = 40 := by decide
    rcases n_in v1 1 40 with ⟨h1, h2, h3⟩ | ⟨h1, h3⟩
    · rw [h3, obs, if_neg (by decide)]
      rw [t1i] at h1
      rw [t40] at h2
      refine t_bind (P := fun _ => True) ⟨_, rfl, trivial⟩ (fun J3 _ => ?_)
      refine t_bind (n_ways27 hM hA (by omega) hn en J3 ⟨h1, h2⟩) (fun w pw => ?_)
      obtain ⟨w1, w2, w3⟩ := pw
      obtain ⟨r, _, e, r1, _, r3, r4⟩ := n_rowsNow w1
      exact t_be e (t_ret ⟨r1, w2.join r3 r4⟩)
    · rw [h3, obs, if_pos rfl]
      exact t_ret ⟨hM, hA⟩
theorem n_undoA {I0 I : gM} (hM : MI false I0 I) (hA : A9 I) : T (fX9_undo I) (fun r => MI false I0 r.2 ∧ A9 r.2) := by
  obtain ⟨n, hn, en⟩ := hM.tn
  obtain ⟨A, hA4, eA⟩ := hM.n (k := 62) (j := 29) (hi := 40) rfl
  by_cases c : A = 0
  · subst c
    unfold fX9_undo
    rw [if_pos (show I 62 29 = (0 : Int32) from eA)]
    exact t_ret ⟨hM, hA⟩
  · obtain ⟨r, e, r1, r2, r3, r4, r5⟩ := n_undo hM hA4 eA (by omega)
    refine ⟨_, e, r1, ?_⟩
    have h2 := hA.2.1
    rw [eA, nIt (by omega)] at h2
    have hk := h2 (A - 1) (by omega)
    show A9 r
    refine ⟨?_, fun a ha => ?_, fun q => ?_⟩
    · rw [r4 17 (by omega), r5 72 (by omega) (by omega)]
      have e70 : ∀ x, x < 150 → r 70 x = I 81 (331 * (A - 1) + x) := fun x hx => by rw [r3, if_pos (by omega)]
      intro t ht i hi c' hc
      rw [en, nIt (by omega)] at ht
      have h12 : (I 81 (331 * (A - 1) + (2 + t))).toInt ≤ 12 := by
        have := hM.1 81 (331 * (A - 1) + (2 + t))
        rw [rg81 _ _ (by omega), rgN_m (by omega)] at this
        exact this.2
      have hd := hM.wd t (by omega)
      rw [e70 _ (by omega)] at hi
      rw [e70 _ (by omega)]
      exact hk t (by rw [en, nIt (by omega)]; exact ht) i hi c' hc
    · rw [r4 17 (by omega), r5 72 (by omega) (by omega), r5 81 (by omega) (by omega)]
      rw [r2, nIt (by omega)] at ha
      exact h2 a (by omega)
    · rw [r4 17 (by omega), r5 72 (by omega) (by omega), r5 89 (by omega) (by omega)]
      exact hA.2.2 (by rw [← r4 42 (by omega)]; exact q)
theorem n_image {I0 I : gM} (hM : MI false I0 I) (hA : A9 I) : T (fX9_image I) (fun r => MI false I0 r.2 ∧ A9 r.2) := by
  obtain ⟨n, hn, en⟩ := hM.tn
  unfold fX9_image
  rw [n_areTables hn en, obs]
  by_cases c : n = 0
  · rw [if_pos c, if_pos rfl]
    exact t_ret ⟨hM, hA⟩
  · rw [if_neg c, if_neg (by decide)]
    refine t_bind (n_lX9_image_11 hM) (fun w pw => ?_)
    obtain ⟨w1, w2, w3⟩ := pw
    refine t_be pU_n ?_
    have M5 : MI false I0 (g_up w 62 42 1) := w1.up (k := 62) rfl (lo := 0) (hi := 1) rfl (by decide) (by decide)
    obtain ⟨r, _, e, r1, _, r3, r4⟩ := n_rowsNow M5
    refine t_be e (t_ret ⟨r1, ?_⟩)
    have A5 : A9 (g_up w 62 42 1) := by
      have gk : ∀ k, k ≠ 62 → g_up w 62 42 1 k = w k := fun k hk => g_up_row hk
      have g17 : g_up w 62 42 1 62 17 = I 62 17 := by rw [g_up_ne (Or.inr (by omega)), w3 62 (by omega)]
      have g29 : g_up w 62 42 1 62 29 = I 62 29 := by rw [g_up_ne (Or.inr (by omega)), w3 62 (by omega)]
      unfold A9
      rw [g17, g29, gk 70 (by omega), gk 72 (by omega), gk 81 (by omega), gk 89 (by omega), w3 70 (by omega), w3 72 (by omega), w3 81 (by omega)]
      refine ⟨hA.1, hA.2.1, fun _ => ?_⟩
      refine hA.1.cong (by rw [en, nIt (by omega)]; exact hn) (mi_rW hM) hM.wd (fun x h1 h2 => ?_)
      rw [w2, if_pos (by omega), show x - 0 + 0 = x by omega]
    exact A5.join r3 r4
theorem n_back {I0 I : gM} (hM : MI false I0 I) (hA : A9 I) : T (fX9_back I) (fun r => MI false I0 r.2 ∧ A9 r.2) := by
  obtain ⟨n, hn, en⟩ := hM.tn
  unfold fX9_back
  refine t_ite (fun c => t_ret ⟨hM, hA⟩) (fun c => ?_)
  refine t_bind (n_lX9_back_11 hM) (fun w pw => ?_)
  obtain ⟨w1, w2, w3⟩ := pw
  refine t_be pU_n ?_
  have M5 : MI false I0 (g_up w 62 29 0) := w1.up (k := 62) rfl (lo := 0) (hi := 40) rfl (by decide) (by decide)
  obtain ⟨r, _, e, r1, _, r3, r4⟩ := n_rowsNow M5
  refine t_be e (t_ret ⟨r1, ?_⟩)
  have A5 : A9 (g_up w 62 29 0) := by
    have gk : ∀ k, k ≠ 62 → g_up w 62 29 0 k = w k := fun k hk => g_up_row hk
    have g17 : g_up w 62 29 0 62 17 = I 62 17 := by rw [g_up_ne (Or.inr (by omega)), w3 62 (by omega)]
    have g42 : g_up w 62 29 0 62 42 = I 62 42 := by rw [g_up_ne (Or.inr (by omega)), w3 62 (by omega)]
    have g29 : g_up w 62 29 0 62 29 = 0 := g_up_self
    unfold A9
    rw [g17, g29, g42, gk 70 (by omega), gk 72 (by omega), gk 81 (by omega), gk 89 (by omega), w3 72 (by omega), w3 81 (by omega), w3 89 (by omega)]
    refine ⟨?_, fun a ha => absurd ha (by rw [t0i]; omega), hA.2.2⟩
    have hw : rW (I 89) := fun j => hM.1 89 j
    refine (hA.2.2 c).cong (by rw [en, nIt (by omega)]; exact hn) hw hM.wd (fun x h1 h2 => ?_)
    rw [w2, if_pos (by omega), show x - 0 + 0 = x by omega]
  exact A5.join r3 r4
/-- the state is as it was -/
theorem n_goSteps1 {I0 I : gM} (hM : MI false I0 I) (hA : A9 I) {sc : Nat} (hs : sc < 4) : T (fX9_goSteps (nI sc) (nI 1) I) (fun r => MI false I0 r.2 ∧ A9 r.2) := by
  obtain ⟨n, hn, en⟩ := hM.tn
  have key : T (lX9_goSteps_2 (nI sc) (nI 1) (nI 0, I)) (Sum.elim (fun r : Int32 × gM => MI false I0 r.2 ∧ A9 r.2) (fun r : gM => MI false I0 r ∧ A9 r)) := by
    unfold lX9_goSteps_2
    refine t_it (P := fun s => ∃ i, s.1 = nI i ∧ i ≤ 12 ∧ MI false I0 s.2 ∧ A9 s.2 ∧ s.2 62 17 = nI n) (μ := fun s => 20 - s.1.toInt.toNat) (fun s p => ?_) ⟨0, rfl, by omega, hM, hA, en⟩
    obtain ⟨s1, s2⟩ := s
    obtain ⟨i, e1, h1, hM2, hA2, en2⟩ := p
    dsimp only at e1 hM2 hA2 en2
    subst e1
    dsimp only
    obtain ⟨m, m12, em⟩ := hM2.n (k := 69) (j := sc) (hi := 12) rfl
    refine t_be (rI_n (by omega) (by omega)) ?_
    rw [em]
    refine t_ite (fun c => ?_) (fun c => ?_)
    · exact t_ret (show MI false I0 s2 ∧ A9 s2 from ⟨hM2, hA2⟩)
    · have c := mt (nI_leI (a := m) (b := i) (by omega) (by omega)).mpr c
      rw [a12, L5, nI_mul, L1, L2, L3, L4, nI_add, nI_add, nI_add, nI_add]
      refine t_be (rI_n (by omega) (by omega)) (t_be (rI_n (by omega) (by omega)) (t_be (rI_n (by omega) (by omega)) (t_be (rI_n (by omega) (by omega)) (t_be (rI_n (by omega) (by omega)) ?_))))
      refine t_bindE (tfX9_whyNot _ _ _ _ _ s2 hM2) (fun v ev pv => ?_)
      refine t_ite (fun c2 => ?_) (fun c2 => ?_)
      · rw [if_neg (by decide)]
        refine t_be (rI_n (by omega) (by omega)) (t_be (rI_n (by omega) (by omega)) (t_be (rI_n (by omega) (by omega)) (t_be (rI_n (by omega) (by omega)) (t_be (rI_n (by omega) (by omega)) ?_))))
        rw [show v = -1 from c2] at ev
        obtain ⟨A, hA4, eA⟩ := hM2.n (k := 62) (j := 29) (hi := 40) rfl
        obtain ⟨L, hL, eL⟩ := hM2.n (k := 70) (j := 150) (hi := 60) rfl
        obtain ⟨w', hw'⟩ := n_can hM2 hn en2 ev
        obtain ⟨I9, rj, v', r, j1, j2, e, r1, r2, _, _, _, _, _, _, _, f1, f2, _⟩ := n_act hM2 hA2 hn en2 hA4 eA hL eL hw'
        refine t_be e ?_
        unfold bX9_goSteps_178
        refine t_nx ?_ (by show 20 - (nI i + nI 1).toInt.toNat < 20 - (nI i).toInt.toNat; rw [nI_add, nIt (by omega), nIt (by omega)]; omega)
        exact ⟨i + 1, nI_1 i, by omega, r1, r2, (f1 17 (by omega) (by omega) (by omega) (by omega)).trans en2⟩
      · exact t_ret (show MI false I0 s2 ∧ A9 s2 from ⟨hM2, hA2⟩)
  obtain ⟨w, e, h⟩ := key
  unfold fX9_goSteps
  rw [L0, e, obs]
  rcases w with w | w
  · exact t_ret h
  · have h : MI false I0 w ∧ A9 w := h
    exact t_be (rI_n (by omega) (by omega)) (t_ret h)
/-- what acts leave of the numbers behind the live ones -/
theorem Act9.hi {n : Nat} {wd w w' : Nat → Int32} {s a x y z : Int32} (h : Act9 n wd w s a x y z w') (hn : n ≤ 4) : ∀ j, 150 ≤ j → w' j = w j := by
  intro j hj
  rcases h with ⟨_, t, m, i, h1, h2, h3, h4, h5, h6, h7, rfl⟩ | ⟨_, t, m, i, h1, h2, h3, h4, h5, h6, h7, h8, rfl⟩ | ⟨_, t, h1, h2, h3, rfl⟩ | ⟨_, _, _, o, h1, h2, h3, h4, rfl⟩
  · have := h6.1
    unfold insW
    rw [if_neg (by omega), if_neg (by omega), if_neg (by omega), if_neg (by omega), if_neg (by omega)]
  · unfold delW
    rw [if_neg (by omega), if_neg (by omega)]
  · dsimp only; rw [if_neg (by omega)]
  · dsimp only; rw [if_neg (by omega)]
theorem n_goSteps0 {I0 I : gM} (hM : MI false I0 I) {sc : Nat} (hs : sc < 4) : T (fX9_goSteps (nI sc) (nI 0) I) (fun r => MI false I0 r.2 ∧ (∀ k, k ≠ 70 → r.2 k = I k) ∧ ∀ j, 150 ≤ j → r.2 70 j = I 70 j) := by
  obtain ⟨n, hn, en⟩ := hM.tn
  have key : T (lX9_goSteps_2 (nI sc) (nI 0) (nI 0, I)) (Sum.elim (fun r : Int32 × gM => MI false I0 r.2 ∧ (∀ k, k ≠ 70 → r.2 k = I k) ∧ ∀ j, 150 ≤ j → r.2 70 j = I 70 j) (fun r : gM => MI false I0 r ∧ (∀ k, k ≠ 70 → r k = I k) ∧ ∀ j, 150 ≤ j → r 70 j = I 70 j)) := by
    unfold lX9_goSteps_2
    refine t_it (P := fun s => ∃ i, s.1 = nI i ∧ i ≤ 12 ∧ MI false I0 s.2 ∧ (∀ k, k ≠ 70 → s.2 k = I k) ∧ ∀ j, 150 ≤ j → s.2 70 j = I 70 j) (μ := fun s => 20 - s.1.toInt.toNat) (fun s p => ?_) ⟨0, rfl, by omega, hM, fun _ _ => rfl, fun _ _ => rfl⟩
    obtain ⟨s1, s2⟩ := s
    obtain ⟨i, e1, h1, hM2, f1, f2⟩ := p
    dsimp only at e1 hM2 f1 f2
    subst e1
    dsimp only
    have en2 : s2 62 17 = nI n := by rw [f1 62 (by omega)]; exact en
    obtain ⟨m, m12, em⟩ := hM2.n (k := 69) (j := sc) (hi := 12) rfl
    refine t_be (rI_n (by omega) (by omega)) ?_
    rw [em]
    refine t_ite (fun c => ?_) (fun c => ?_)
    · exact t_ret (show MI false I0 s2 ∧ (∀ k, k ≠ 70 → s2 k = I k) ∧ ∀ j, 150 ≤ j → s2 70 j = I 70 j from ⟨hM2, f1, f2⟩)
    · have c := mt (nI_leI (a := m) (b := i) (by omega) (by omega)).mpr c
      rw [a12, L5, nI_mul, L1, L2, L3, L4, nI_add, nI_add, nI_add, nI_add]
      refine t_be (rI_n (by omega) (by omega)) (t_be (rI_n (by omega) (by omega)) (t_be (rI_n (by omega) (by omega)) (t_be (rI_n (by omega) (by omega)) (t_be (rI_n (by omega) (by omega)) ?_))))
      refine t_bindE (tfX9_whyNot _ _ _ _ _ s2 hM2) (fun v ev pv => ?_)
      refine t_ite (fun c2 => ?_) (fun c2 => ?_)
      · rw [if_pos (by decide)]
        refine t_be (rI_n (by omega) (by omega)) (t_be (rI_n (by omega) (by omega)) (t_be (rI_n (by omega) (by omega)) (t_be (rI_n (by omega) (by omega)) (t_be (rI_n (by omega) (by omega)) ?_))))
        rw [show v = -1 from c2] at ev
        obtain ⟨w', hw'⟩ := n_can hM2 hn en2 ev
        obtain ⟨v', r, e, r1, r2, r3, _⟩ := n_doNow hM2 hn en2 hw'
        refine t_be e ?_
        unfold bX9_goSteps_178
        refine t_nx ?_ (by show 20 - (nI i + nI 1).toInt.toNat < 20 - (nI i).toInt.toNat; rw [nI_add, nIt (by omega), nIt (by omega)]; omega)
        exact ⟨i + 1, nI_1 i, by omega, r1, fun k hk => (r2 k hk).trans (f1 k hk), fun j hj => by show r 70 j = _; rw [r3, hw'.hi hn j hj]; exact f2 j hj⟩
      · exact t_ret (show MI false I0 s2 ∧ (∀ k, k ≠ 70 → s2 k = I k) ∧ ∀ j, 150 ≤ j → s2 70 j = I 70 j from ⟨hM2, f1, f2⟩)
  obtain ⟨w, e, h⟩ := key
  unfold fX9_goSteps
  rw [show ((0 : Int32), I) = (nI 0, I) from rfl, e, obs]
  rcases w with w | w
  · exact t_ret h
  · have h : MI false I0 w ∧ (∀ k, k ≠ 70 → w k = I k) ∧ ∀ j, 150 ≤ j → w 70 j = I 70 j := h
    exact t_be (rI_n (by omega) (by omega)) (t_ret h)
theorem n_isScript {I : gM} {m : Nat} (hm : m ≤ 4) (e : I 62 12 = nI m) (v : Int32) : (∃ t, t < m ∧ v = nI t ∧ fX9_isScript v I = some 1) ∨ ((∀ t, t < m → v ≠ nI t) ∧ fX9_isScript v I = some 0) := by
  have en : (I 62 12 - 1).toInt = (m : Int) - 1 := by rw [e]; exact tS (tnI (by omega)) t1i (by omega) (by omega)
  unfold fX9_isScript
  rcases n_in v 0 (I 62 12 - 1) with ⟨h1, h2, h3⟩ | ⟨h1, h3⟩
  · rw [h3, obs, bO_1, obs]
    rw [t0i] at h1
    exact Or.inl ⟨v.toInt.toNat, by omega, nI_self h1, rfl⟩
  · rw [h3, obs, bO_0, obs]
    refine Or.inr ⟨fun t ht hv => h1 ?_, rfl⟩
    rw [hv, tnI (by omega), t0i]; omega
theorem n_perform {I0 I : gM} (hM : MI false I0 I) (hA : A9 I) (v : Int32) : T (fX9_perform v I) (fun r => MI false I0 r.2 ∧ A9 r.2) := by
  obtain ⟨n, hn, en⟩ := hM.tn
  obtain ⟨m, hm, em⟩ := hM.n (k := 62) (j := 12) (hi := 4) rfl
  unfold fX9_perform
  rcases n_isScript hm em v with ⟨t, t1, rfl, e⟩ | ⟨t1, e⟩
  · rw [e, obs, if_neg (by decide), n_areTables hn en, obs]
    by_cases c : n = 0
    · rw [if_pos c, if_pos rfl]; exact t_ret ⟨hM, hA⟩
    · rw [if_neg c, if_neg (by decide)]
      exact t_bind (n_goSteps1 hM hA (by omega)) (fun r h => t_ret h)
  · rw [e, obs, if_pos rfl]; exact t_ret ⟨hM, hA⟩
/-- brought back: as it was -/
theorem n_again {I0 I r r2 : gM} (hM : MI false I0 I) (hA : A9 I) (M2 : MI false I0 r2) (h88 : ∀ a, a < 150 → r 88 a = I 70 a) (h70 : ∀ a, a < 150 → r2 70 a = r 88 a) (hhi : ∀ j, 150 ≤ j → r2 70 j = I 70 j) (hk : ∀ k, k = 72 ∨ k = 81 ∨ k = 89 → r2 k = I k) (h17 : r2 62 17 = I 62 17) (h29 : r2 62 29 = I 62 29) (h42 : r2 62 42 = I 62 42) : MI false I0 r2 ∧ A9 r2 := by
  have e70 : r2 70 = I 70 := by
    funext a
    by_cases c : a < 150
    · rw [h70 a c, h88 a c]
    · exact hhi a (by omega)
  refine ⟨M2, hA.same h17 h29 h42 (fun k q => ?_)⟩
  rcases q with rfl | q
  · exact e70
  · exact hk k q
theorem n_run {I0 I : gM} (hM : MI false I0 I) (hA : A9 I) (v1 v2 : Int32) : T (fX9_run v1 v2 I) (fun r => MI false I0 r.2 ∧ A9 r.2) := by
  obtain ⟨n, hn, en⟩ := hM.tn
  obtain ⟨m, hm, em⟩ := hM.n (k := 62) (j := 12) (hi := 4) rfl
  unfold fX9_run
  rcases n_isScript hm em v1 with ⟨t, t1, rfl, e⟩ | ⟨t1, e⟩
  · rw [e, obs, if_neg (by decide), n_areTables hn en, obs]
    by_cases c : n = 0
    · rw [if_pos c, if_pos rfl]; exact t_ret ⟨hM, hA⟩
    · rw [if_neg c, if_neg (by decide)]
      rcases n_in v2 0 1 with ⟨h1, h2, h3⟩ | ⟨h1, h3⟩
      · rw [h3, obs, if_neg (by decide)]
        obtain ⟨p, ep, p1, p2, p3⟩ := n_putAside hM
        refine t_be ep (t_bind (n_goSteps0 p1 (by omega)) (fun g pg => ?_))
        obtain ⟨g1, g2, g3⟩ := pg
        obtain ⟨q, _, eq, q1, _, q3, q4⟩ := n_rowsNow g1
        refine t_be eq ?_
        obtain ⟨b, eb, b1, b2, b3⟩ := n_bringBack q1
        refine t_be eb ?_
        have ok : MI false I0 b ∧ A9 b := n_again hM hA b1 (r := q) (fun a ha => by rw [q3 88 (by omega) (by omega) (by omega) (by omega) (by omega) (by omega) (by omega) (by omega), g2 88 (by omega)]; exact p2 a ha) (fun a ha => by rw [b2, if_pos ha]) (fun j hj => by rw [b2, if_neg (by omega), q3 70 (by omega) (by omega) (by omega) (by omega) (by omega) (by omega) (by omega) (by omega), g3 j hj, p3 70 (by omega)]) (fun k hk => by rw [b3 k (by omega), q3 k (by omega) (by omega) (by omega) (by omega) (by omega) (by omega) (by omega) (by omega), g2 k (by omega), p3 k (by omega)]) (by rw [b3 62 (by omega), q4 17 (by omega) (by omega) (by omega), g2 62 (by omega), p3 62 (by omega)]) (by rw [b3 62 (by omega), q4 29 (by omega) (by omega) (by omega), g2 62 (by omega), p3 62 (by omega)]) (by rw [b3 62 (by omega), q4 42 (by omega) (by omega) (by omega), g2 62 (by omega), p3 62 (by omega)])
        refine t_ite (fun c2 => t_ret ok) (fun c2 => ?_)
        refine t_be (rI_n (by omega) (by omega)) ?_
        exact t_ite (fun c3 => t_ret ok) (fun c3 => t_ret ok)
      · rw [h3, obs, if_pos rfl]; exact t_ret ⟨hM, hA⟩
  · rw [e, obs, if_pos rfl]; exact t_ret ⟨hM, hA⟩
theorem n_would {I0 I : gM} (hM : MI false I0 I) (hA : A9 I) (v1 v2 v3 v4 v5 : Int32) : T (fX9_would v1 v2 v3 v4 v5 I) (fun r => MI false I0 r.2 ∧ A9 r.2) := by
  obtain ⟨n, hn, en⟩ := hM.tn
  unfold fX9_would
  refine t_bindE (tfX9_whyPut v1 v2 v3 v4 I hM) (fun v ev pv => ?_)
  refine t_ite (fun c => ?_) (fun c => t_ret ⟨hM, hA⟩)
  rcases n_in v5 0 1 with ⟨h1, h2, h3⟩ | ⟨h1, h3⟩
  · rw [h3, obs, if_neg (by decide)]
    rw [c] at ev
    obtain ⟨w', hw'⟩ := n_can hM hn en (s := 0) (a := v1) (x := v2) (y := v3) (z := v4) (by unfold fX9_whyNot; rw [if_pos rfl, ev, obs])
    obtain ⟨p, ep, p1, p2, p3⟩ := n_putAside hM
    obtain ⟨vv, g, eg, g1, g2, g3, _⟩ := n_doNow p1 hn (by rw [p3 62 (by omega)]; exact en) (s := 0) (a := v1) (x := v2) (y := v3) (z := v4) (w' := w') (by rw [p3 70 (by omega), p3 72 (by omega)]; exact hw')
    have eg2 : fX9_putsNow v1 v2 v3 v4 p = some (vv, g) := by
      unfold fX9_doNow at eg
      rw [if_pos rfl] at eg
      obtain ⟨r', e1, e2⟩ := ob eg
      rw [e1]; exact e2
    obtain ⟨q, eq, _, q1, _, q3, q4⟩ := n_rowsNow g1
    obtain ⟨b, eb, b1, b2, b3⟩ := n_bringBack q1
    refine t_be ep (t_be eg2 (t_be eq (t_be eb ?_)))
    have ok : MI false I0 b ∧ A9 b := n_again hM hA b1 (r := q) (fun a ha => by rw [q3 88 (by omega) (by omega) (by omega) (by omega) (by omega) (by omega) (by omega) (by omega), g2 88 (by omega)]; exact p2 a ha) (fun a ha => by rw [b2, if_pos ha]) (fun j hj => by rw [b2, if_neg (by omega), q3 70 (by omega) (by omega) (by omega) (by omega) (by omega) (by omega) (by omega) (by omega), g3, hw'.hi hn j hj]) (fun k hk => by rw [b3 k (by omega), q3 k (by omega) (by omega) (by omega) (by omega) (by omega) (by omega) (by omega) (by omega), g2 k (by omega), p3 k (by omega)]) (by rw [b3 62 (by omega), q4 17 (by omega) (by omega) (by omega), g2 62 (by omega), p3 62 (by omega)]) (by rw [b3 62 (by omega), q4 29 (by omega) (by omega) (by omega), g2 62 (by omega), p3 62 (by omega)]) (by rw [b3 62 (by omega), q4 42 (by omega) (by omega) (by omega), g2 62 (by omega), p3 62 (by omega)])
    exact t_ite (fun c3 => t_ret ok) (fun c3 => t_ret ok)
  · rw [h3, obs, if_pos rfl]; exact t_ret ⟨hM, hA⟩
