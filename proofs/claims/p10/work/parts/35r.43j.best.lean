/-! best: both weigh all orders -/
theorem mX_eq (a b : Int32) : mX a b = if b ≤ a then a else b := by
  unfold mX
  by_cases c : a < b
  · rw [if_pos c, if_neg]
    rw [Int32.le_iff_toInt_le]
    rw [Int32.lt_iff_toInt_lt] at c
    omega
  · rw [if_neg c, if_pos]
    rw [Int32.le_iff_toInt_le]
    rw [Int32.lt_iff_toInt_lt] at c
    omega
theorem cw_end {M : gM} : lX7_weigh_10 3 29 (nI 24, M) = some M := by
  unfold lX7_weigh_10
  refine it_r ?_
  dsimp only
  rw [if_pos (show (24 : Int32) ≤ nI 24 by decide)]
theorem nw_end {R : gM} : lX9_triesOrders_12 (nI 24, R) = some R := by
  unfold lX9_triesOrders_12
  refine it_r ?_
  dsimp only
  rw [if_pos (show (24 : Int32) ≤ nI 24 by decide)]
theorem cw_step {i : Nat} {M r : gM} (hi : i < 24) (e : fX1_findBy 29 3 (nI i) M = some r) : ∃ N, lX7_weigh_10 3 29 (nI i, M) = lX7_weigh_10 3 29 (nI (i + 1), N) ∧ (∀ q, q ≠ 43 → N q = r q) ∧ (i = 0 → N 43 1 = nI 0 ∧ N 43 2 = r 29 1 ∧ N 43 3 = r 29 1) ∧ (i ≠ 0 → N 43 1 = (if r 43 2 ≤ r 29 1 then r 43 1 else nI i) ∧ N 43 2 = (if r 43 2 ≤ r 29 1 then r 43 2 else r 29 1) ∧ N 43 3 = if r 29 1 ≤ r 43 3 then r 43 3 else r 29 1) := by
  have hb : ¬ (24 : Int32) ≤ nI i := fun z => absurd ((nI_leI (a := 24) (by omega) (by omega)).mp z) (by omega)
  have iz : nI i = 0 ↔ i = 0 := ⟨fun z => nI_inj (b := 0) z (by omega) (by omega), fun z => by rw [z]; rfl⟩
  have k50 : ∀ {K : gM}, (∀ q, q ≠ 43 → K q = r q) → ∃ N, bX7_weigh_50 29 (nI i) K = some (.inl (nI (i + 1), N)) ∧ (∀ q, q ≠ 43 → N q = r q) ∧ N 43 1 = K 43 1 ∧ N 43 2 = K 43 2 ∧ (i = 0 → N 43 3 = r 29 1) ∧ (i ≠ 0 → N 43 3 = if r 29 1 ≤ K 43 3 then K 43 3 else r 29 1) := by
    intro K hK
    have h29 : K 29 = r 29 := hK 29 (by omega)
    unfold bX7_weigh_50 bX7_weigh_65 bX7_weigh_73
    rw [pU_n, obs, nI_1, h29]
    have up : (∀ q, q ≠ 43 → g_up K 43 3 (r 29 1) q = r q) ∧ g_up K 43 3 (r 29 1) 43 1 = K 43 1 ∧ g_up K 43 3 (r 29 1) 43 2 = K 43 2 ∧ g_up K 43 3 (r 29 1) 43 3 = r 29 1 := ⟨fun q hq => by rw [g_up_row hq]; exact hK q hq, g_up_ne (Or.inr (by decide)), g_up_ne (Or.inr (by decide)), g_up_self⟩
    by_cases c0 : i = 0
    · rw [if_pos (iz.mpr c0)]
      exact ⟨_, rfl, up.1, up.2.1, up.2.2.1, fun _ => up.2.2.2, fun z => absurd c0 z⟩
    · rw [if_neg (mt iz.mp c0)]
      by_cases c : r 29 1 ≤ K 43 3
      · rw [if_pos c]
        exact ⟨_, rfl, hK, rfl, rfl, fun z => absurd z c0, fun _ => by rw [if_pos c]⟩
      · rw [if_neg c]
        exact ⟨_, rfl, up.1, up.2.1, up.2.2.1, fun z => absurd z c0, fun _ => by rw [if_neg c]; exact up.2.2.2⟩
  have k37 : ∃ N, bX7_weigh_37 29 (nI i) r = some (.inl (nI (i + 1), N)) ∧ (∀ q, q ≠ 43 → N q = r q) ∧ N 43 1 = nI i ∧ N 43 2 = r 29 1 ∧ (i = 0 → N 43 3 = r 29 1) ∧ (i ≠ 0 → N 43 3 = if r 29 1 ≤ r 43 3 then r 43 3 else r 29 1) := by
    unfold bX7_weigh_37
    rw [pU_n, obs, pU_n, obs, g_up_row (show 29 ≠ 43 by decide)]
    obtain ⟨N, h1, h2, h3, h4, h5, h6⟩ := k50 (K := g_up (g_up r 43 1 (nI i)) 43 2 (r 29 1)) (fun q hq => by rw [g_up_row hq, g_up_row hq])
    refine ⟨N, h1, h2, h3.trans ?_, h4.trans g_up_self, h5, fun z => ?_⟩
    · rw [g_up_ne (Or.inr (by decide)), g_up_self]
    · rw [h6 z, g_up_ne (Or.inr (by decide)), g_up_ne (Or.inr (by decide))]
  by_cases c0 : i = 0
  · obtain ⟨N, h1, h2, h3, h4, h5, _⟩ := k37
    refine ⟨N, ?_, h2, fun _ => ⟨by rw [h3, c0], h4, h5 c0⟩, fun z => absurd c0 z⟩
    unfold lX7_weigh_10
    refine it_l ?_
    dsimp only
    rw [if_neg hb, e, obs, if_pos (iz.mpr c0), h1]
  · by_cases c : r 43 2 ≤ r 29 1
    · obtain ⟨N, h1, h2, h3, h4, _, h6⟩ := k50 (K := r) (fun _ _ => rfl)
      refine ⟨N, ?_, h2, fun z => absurd z c0, fun _ => ⟨by rw [if_pos c]; exact h3, by rw [if_pos c]; exact h4, h6 c0⟩⟩
      unfold lX7_weigh_10
      refine it_l ?_
      dsimp only
      rw [if_neg hb, e, obs, if_neg (mt iz.mp c0), if_pos c, h1]
    · obtain ⟨N, h1, h2, h3, h4, _, h6⟩ := k37
      refine ⟨N, ?_, h2, fun z => absurd z c0, fun _ => ⟨by rw [if_neg c]; exact h3, by rw [if_neg c]; exact h4, h6 c0⟩⟩
      unfold lX7_weigh_10
      refine it_l ?_
      dsimp only
      rw [if_neg hb, e, obs, if_neg (mt iz.mp c0), if_neg c, h1]
theorem nw_step {i : Nat} {R r : gM} (hi : i < 24) (e : fX9_joins (nI i) R = some r) : ∃ N, lX9_triesOrders_12 (nI i, R) = lX9_triesOrders_12 (nI (i + 1), N) ∧ (∀ q j, q ≠ 62 ∨ j ≠ 31 ∧ j ≠ 32 ∧ j ≠ 33 → N q j = r q j) ∧ N 62 33 = mX (r 62 33) (r 62 27) ∧ N 62 31 = (if r 62 31 ≠ -1 ∧ r 62 32 ≤ r 62 27 then r 62 31 else nI i) ∧ N 62 32 = if r 62 31 ≠ -1 ∧ r 62 32 ≤ r 62 27 then r 62 32 else r 62 27 := by
  have hb : ¬ (24 : Int32) ≤ nI i := fun z => absurd ((nI_leI (a := 24) (by omega) (by omega)).mp z) (by omega)
  have k55 : ∀ K : gM, bX9_triesOrders_55 (nI i) K = some (.inl (nI (i + 1), g_up K 62 33 (mX (K 62 33) (K 62 27)))) := fun K => by
    unfold bX9_triesOrders_55
    rw [pU_n, obs, nI_1]
  have k42 : bX9_triesOrders_42 (nI i) r = some (.inl (nI (i + 1), g_up (g_up (g_up r 62 31 (nI i)) 62 32 (r 62 27)) 62 33 (mX (r 62 33) (r 62 27)))) := by
    unfold bX9_triesOrders_42
    rw [pU_n, obs, pU_n, obs, k55, g_up_ne (show 62 ≠ 62 ∨ 27 ≠ 31 from Or.inr (by decide)), g_up_ne (show 62 ≠ 62 ∨ 33 ≠ 32 from Or.inr (by decide)), g_up_ne (show 62 ≠ 62 ∨ 33 ≠ 31 from Or.inr (by decide)), g_up_ne (show 62 ≠ 62 ∨ 27 ≠ 32 from Or.inr (by decide)), g_up_ne (show 62 ≠ 62 ∨ 27 ≠ 31 from Or.inr (by decide))]
  by_cases c : r 62 31 ≠ -1 ∧ r 62 32 ≤ r 62 27
  · refine ⟨g_up r 62 33 (mX (r 62 33) (r 62 27)), ?_, fun q j h => ?_, g_up_self, ?_, ?_⟩
    · unfold lX9_triesOrders_12
      refine it_l ?_
      dsimp only
      rw [if_neg hb, e, obs, if_neg c.1, if_pos c.2, k55]
    · exact g_up_ne (by omega)
    · rw [if_pos c, g_up_ne (Or.inr (by decide))]
    · rw [if_pos c, g_up_ne (Or.inr (by decide))]
  · refine ⟨g_up (g_up (g_up r 62 31 (nI i)) 62 32 (r 62 27)) 62 33 (mX (r 62 33) (r 62 27)), ?_, fun q j h => ?_, g_up_self, ?_, ?_⟩
    · unfold lX9_triesOrders_12
      refine it_l ?_
      dsimp only
      rw [if_neg hb, e, obs]
      by_cases c1 : r 62 31 = -1
      · rw [if_pos c1, k42]
      · rw [if_neg c1, if_neg (fun z => c ⟨c1, z⟩), k42]
    · rw [g_up_ne (by omega), g_up_ne (by omega), g_up_ne (by omega)]
    · rw [if_neg c, g_up_ne (Or.inr (by decide)), g_up_ne (Or.inr (by decide)), g_up_self]
    · rw [if_neg c, g_up_ne (Or.inr (by decide)), g_up_self]
theorem weigh_go {I0 R0 : gM} {A : aT} (hW : WF A) (h0 : 0 < A.1.length) : ∀ (d i : Nat) (M R : gM), i + d = 24 → CT M 3 A → M 33 0 = 0 → MI false R0 R → RT R (R 70) A → (i = 0 → R 62 31 = -1 ∧ R 62 33 = 0) → (i ≠ 0 → R 62 31 ≠ -1 ∧ M 43 1 = R 62 31 ∧ M 43 2 = R 62 32 ∧ M 43 3 = R 62 33) → ∃ M' R', lX7_weigh_10 3 29 (nI i, M) = some M' ∧ lX9_triesOrders_12 (nI i, R) = some R' ∧ M' 43 1 = R' 62 31 ∧ M' 43 2 = R' 62 32 ∧ M' 43 3 = R' 62 33 := by
  intro d
  induction d with
  | zero =>
    intro i M R hi hC hz hM hR _ h
    obtain rfl : i = 24 := by omega
    obtain ⟨_, a, b, c⟩ := h (by omega)
    exact ⟨M, R, cw_end, nw_end, a, b, c⟩
  | succ d ih =>
    intro i M R hi hC hz hM hR hA hB
    obtain ⟨M', R', J, f1, f2, o, hJ, hS, hQ, _, f3⟩ := find_two (I0 := I0) (k := 29) (k1 := 3) (o := i) (by omega) hM hW h0 hC hR hz (by omega)
    have s4 : (fl4 i (asA A)).length ≤ 4 := (okS_fl4 (by omega) (asA_lt hW)).1
    have L0 : 0 ≤ (M' 29 1).toInt := (leaps_nn f1 (by rw [hS.1, tnI (by omega)]; omega)).1
    have Le : M' 29 1 = R' 62 27 := o.2.2.1
    obtain ⟨N, n1, n2, n3, n4⟩ := cw_step (by omega) f1
    obtain ⟨K, k1, k2, k3, k4, k5⟩ := nw_step (by omega) f2
    have M1 : MI false R0 R' := by
      obtain ⟨p, ep, hp, _⟩ := tfX9_joins (nI i) R hM (by rw [tnI (by omega)]; omega)
      rw [f2] at ep
      obtain rfl := Option.some.inj ep
      exact hp
    have r62 : ∀ j, j = 31 ∨ j = 32 ∨ j = 33 ∨ j = 17 → R' 62 j = R 62 j := fun j hj => xfX9_joins _ _ f2 62 j (by omega) (by omega) (by omega) (by omega) (by omega) (by omega) (by omega) (by omega) (by omega) (by omega)
    have rk : ∀ q, q = 70 ∨ q = 72 ∨ q = 73 → R' q = R q := fun q hq => zfX9_joins _ _ f2 q (by omega) (by omega) (by omega) (by omega) (by omega) (by omega) (by omega) (by omega)
    have m43 : M' 43 = M 43 := f3.1 43 (by omega)
    have KK : ∀ q, q ≠ 62 → K q = R' q := fun q hq => funext fun j => k2 q j (Or.inl hq)
    have MK : MI false R0 K := by
      refine ⟨fun q j => ?_, fun q hq => ?_⟩
      · by_cases c : q = 62 ∧ (j = 31 ∨ j = 32 ∨ j = 33)
        · obtain ⟨rfl, c⟩ := c
          rcases c with rfl | rfl | rfl
          · exact tTop _
          · exact tTop _
          · exact tTop _
        · rw [k2 q j (by omega)]
          exact M1.1 q j
      · have ne : q ≠ 62 := fun z => by rw [z] at hq; exact absurd hq (by decide)
        rw [KK q ne]
        exact M1.2 q hq
    have CN : CT N 3 A := by
      have lo : ∀ q, q ≤ 7 → N q = M q := fun q hq => (n2 q (by omega)).trans (f3.1 q (by omega))
      exact hC.cong (fun j _ => by rw [lo 3 (by omega)]) (lo _ (by omega)) (lo _ (by omega)) (lo _ (by omega)) (lo _ (by omega))
    have z33 : N 33 0 = 0 := by rw [n2 33 (by omega)]; exact f3.2.2.trans hz
    have RK : RT K (K 70) A := by
      rw [KK 70 (by omega), rk 70 (by omega)]
      exact hR.cong (by rw [k2 62 17 (Or.inr (by decide)), r62 17 (by omega)]) (by rw [KK 72 (by omega), rk 72 (by omega)]) (by rw [KK 73 (by omega), rk 73 (by omega)]) hW.1 hW.k12 (fun _ _ => rfl)
    rw [n1, k1]
    refine ih (i + 1) N K (by omega) CN z33 MK RK (fun z => absurd z (by omega)) (fun _ => ?_)
    by_cases c0 : i = 0
    · obtain ⟨g1, g2⟩ := hA c0
      obtain ⟨p1, p2, p3⟩ := n3 c0
      have nn : ¬ (R' 62 31 ≠ -1 ∧ R' 62 32 ≤ R' 62 27) := fun z => z.1 (by rw [r62 31 (by omega)]; exact g1)
      rw [if_neg nn] at k4 k5
      rw [k4, k5, k3, p1, p2, p3, c0, Le, r62 33 (by omega), g2]
      refine ⟨by decide, rfl, rfl, ?_⟩
      rw [mX_eq]
      by_cases c : R' 62 27 ≤ 0
      · rw [if_pos c]
        rw [Int32.le_iff_toInt_le, t0i] at c
        rw [Le] at L0
        exact Int32.toInt_inj.mp (by rw [t0i]; omega)
      · rw [if_neg c]
    · obtain ⟨g0, g1, g2, g3⟩ := hB c0
      obtain ⟨p1, p2, p3⟩ := n4 c0
      have q31 : R' 62 31 = M' 43 1 := by rw [r62 31 (by omega), m43, g1]
      have q32 : R' 62 32 = M' 43 2 := by rw [r62 32 (by omega), m43, g2]
      have q33 : R' 62 33 = M' 43 3 := by rw [r62 33 (by omega), m43, g3]
      have n31 : R' 62 31 ≠ -1 := by rw [r62 31 (by omega)]; exact g0
      have e3 : N 43 3 = K 62 33 := by rw [p3, k3, mX_eq, q33, Le]
      by_cases c : M' 43 2 ≤ M' 29 1
      · have c' : R' 62 31 ≠ -1 ∧ R' 62 32 ≤ R' 62 27 := ⟨n31, by rw [q32, ← Le]; exact c⟩
        rw [if_pos c] at p1 p2
        rw [if_pos c'] at k4 k5
        exact ⟨by rw [k4]; exact n31, by rw [p1, k4, q31], by rw [p2, k5, q32], e3⟩
      · have c' : ¬ (R' 62 31 ≠ -1 ∧ R' 62 32 ≤ R' 62 27) := fun z => c (by rw [← q32, Le]; exact z.2)
        rw [if_neg c] at p1 p2
        rw [if_neg c'] at k4 k5
        exact ⟨by rw [k4]; exact nI_ne1 (by omega), by rw [p1, k4], by rw [p2, k5, Le], e3⟩
/-- the class's weights, new or kept, are those of the tables -/
theorem weigh_cur {I r : gM} (h : JX I) (n : I 3 0 ≠ 0) (e : fX7_weigh 3 29 I = some r) : ∃ I8 w, (∀ q, 3 ≤ q ∧ q ≤ 7 → I8 q = I q) ∧ I8 33 0 = 0 ∧ lX7_weigh_10 3 29 (nI 0, I8) = some w ∧ r 43 1 = w 43 1 ∧ r 43 2 = w 43 2 ∧ r 43 3 = w 43 3 := by
  have new : ∀ {K s : gM}, K 43 0 = 0 → fX7_weigh 3 29 K = some s → ∃ w, lX7_weigh_10 3 29 (nI 0, K) = some w ∧ s 43 1 = w 43 1 ∧ s 43 2 = w 43 2 ∧ s 43 3 = w 43 3 := fun {K s} z e => by
    unfold fX7_weigh at e
    rw [if_pos z] at e
    obtain ⟨w, ew, e⟩ := ob e
    rw [pU_n, obs] at e
    obtain rfl := Option.some.inj e
    exact ⟨w, ew, g_up_ne (Or.inr (by decide)), g_up_ne (Or.inr (by decide)), g_up_ne (Or.inr (by decide))⟩
  by_cases c : I 43 0 = 0
  · obtain ⟨w, a, b⟩ := new c e
    exact ⟨I, w, fun _ _ => rfl, h.2.1, a, b⟩
  · have e' := e
    unfold fX7_weigh at e'
    rw [if_neg c] at e'
    obtain rfl := Option.some.inj e'
    rcases (h.2.2 n).2 with z | ⟨I8, M', a1, a2, a3, a4, a5⟩
    · exact absurd z c
    · obtain ⟨w, b1, b2, b3, b4⟩ := new a3 a4
      exact ⟨I8, w, a1, a2, b1, (a5 1).trans b2, (a5 2).trans b3, (a5 3).trans b4⟩
theorem weigh_two {I r R0 R : gM} {A : aT} (h : JX I) (hW : WF A) (h0 : 0 < A.1.length) (hC : CT I 3 A) (hM : MI false R0 R) (hR : RT R (R 70) A) (e : fX7_weigh 3 29 I = some r) : ∃ R', fX9_triesOrders R = some R' ∧ r 43 1 = R' 62 31 ∧ r 43 2 = R' 62 32 ∧ r 43 3 = R' 62 33 := by
  have n0 : I 3 0 ≠ 0 := fun z => by have := (hC.n0 hW).mp z; omega
  obtain ⟨I8, w, a1, a2, a3, a4, a5, a6⟩ := weigh_cur h n0 e
  have hC8 : CT I8 3 A := hC.cong (fun j _ => by rw [a1 3 (by omega)]) (a1 4 (by omega)) (a1 5 (by omega)) (a1 6 (by omega)) (a1 7 (by omega))
  have M2 : MI false R0 (g_up (g_up R 62 31 (-1)) 62 33 0) := (hM.up (k := 62) (j := 31) rfl (lo := top.1) (hi := top.2) rfl (tTop _).1 (tTop _).2).up (k := 62) (j := 33) rfl (lo := top.1) (hi := top.2) rfl (tTop _).1 (tTop _).2
  have R2 : RT (g_up (g_up R 62 31 (-1)) 62 33 0) ((g_up (g_up R 62 31 (-1)) 62 33 0) 70) A := by
    rw [g_up_row (show 70 ≠ 62 by decide), g_up_row (show 70 ≠ 62 by decide)]
    exact hR.cong (by rw [g_up_ne (Or.inr (by decide)), g_up_ne (Or.inr (by decide))]) (by rw [g_up_row (by decide), g_up_row (by decide)]) (by rw [g_up_row (by decide), g_up_row (by decide)]) hW.1 hW.k12 (fun _ _ => rfl)
  obtain ⟨M', R', b1, b2, b3, b4, b5⟩ := weigh_go (I0 := I) hW h0 24 0 I8 _ (by omega) hC8 a2 M2 R2 (fun _ => ⟨by rw [g_up_ne (Or.inr (by decide)), g_up_self], g_up_self⟩) (fun z => absurd rfl z)
  rw [a3] at b1
  obtain rfl := Option.some.inj b1
  refine ⟨R', ?_, a4.trans b3, a5.trans b4, a6.trans b5⟩
  unfold fX9_triesOrders
  rw [pU_n, obs, pU_n, obs]
  have b2 : lX9_triesOrders_12 ((0 : Int32), g_up (g_up R 62 31 (-1)) 62 33 0) = some R' := b2
  rw [b2, obs]
theorem eq_best {I : gM} (h : InvB I) {v : Int32} {a b : Int32 × gM} (e1 : fX8_best v I = some a) (e2 : fX9_best v a.2 = some b) : a.1 = b.1 := by
  obtain ⟨A, hW, hC, hR⟩ := h.tab
  have hMa : MI true I a.2 := by
    obtain ⟨p, ep, hp⟩ := tfX8_best v I h.1.1
    rw [e1] at ep
    obtain rfl := Option.some.inj ep
    exact hp
  have hRa := hR.hi hMa hW
  unfold fX8_best at e1
  unfold fX9_best at e2
  rw [n_areTables hW.1 hRa.1, obs] at e2
  by_cases n : A.1.length = 0
  · rw [if_pos ((hC.n0 hW).mpr n)] at e1
    rw [if_pos n, if_pos rfl] at e2
    cases e1; cases e2; rfl
  · rw [if_neg (mt (hC.n0 hW).mp n)] at e1
    rw [if_neg n, if_neg (by decide)] at e2
    have t1 : (1 : Int32).toInt = 1 := by decide
    have hin := n_in v 0 1
    rw [t0i, t1] at hin
    rcases oi e1 with ⟨c, e1⟩ | ⟨c, e1⟩
    · rw [Int32.lt_iff_toInt_lt, t0i] at c
      rcases hin with ⟨z1, _, _⟩ | ⟨_, z⟩
      · omega
      · rw [z, obs, if_pos rfl] at e2
        cases e1; cases e2; rfl
    · rw [Int32.lt_iff_toInt_lt, t0i] at c
      rcases oi e1 with ⟨d, e1⟩ | ⟨d, e1⟩
      · rw [Int32.le_iff_toInt_le, t1] at d
        rcases hin with ⟨_, _, z⟩ | ⟨z, _⟩
        · obtain ⟨r1, er, e1⟩ := ob e1
          obtain ⟨R', f1, f2, f3, _⟩ := weigh_two h.2.1 hW (by omega) hC hMa.re hRa er
          rw [z, obs, if_neg (by decide), f1, obs] at e2
          rcases oi e1 with ⟨y, e1⟩ | ⟨y, e1⟩
          · rw [if_pos y] at e2
            cases e1; cases e2; exact f2
          · rw [if_neg y] at e2
            cases e1; cases e2; exact f3
        · exact absurd ⟨by omega, by omega⟩ z
      · rw [Int32.le_iff_toInt_le, t1] at d
        rcases hin with ⟨_, _, _⟩ | ⟨_, z⟩
        · omega
        · rw [z, obs, if_pos rfl] at e2
          cases e1; cases e2; rfl
