section P_35r_43i_leaps
/-! the leaps of a join of the class are few -/
def lb : Nat → Nat
  | 0 => 0
  | m + 1 => 48 * (lb m + 1)
/-- a search that starts at depth d, with m letters left -/
def LB (rec : Int32 → gM → Option gM) (k : Nat) (L : Int) (m : Nat) : Prop := ∀ (d : Int32) (I r : gM), rec d I = some r → (I k 2).toInt = L → L - d.toInt ≤ m → 0 ≤ (I k 1).toInt → (I k 1).toInt + lb m < 2147483647 → r k 2 = I k 2 ∧ 0 ≤ (r k 1).toInt ∧ (r k 1).toInt ≤ (I k 1).toInt + lb m
theorem lp_isLeapt {k : Nat} {v1 v2 : Int32} {I : gM} {r : Int32 × gM} (h : fX1_isLeapt k v1 v2 I = some r) (h0 : 0 ≤ (I k 1).toInt) (h1 : (I k 1).toInt < 2147483647) : r.2 k 2 = I k 2 ∧ 0 ≤ (r.2 k 1).toInt ∧ (r.2 k 1).toInt ≤ (I k 1).toInt + 1 := by
  have f2 := xfX1_isLeapt k v1 v2 I h k 2 (by omega) (by omega)
  refine ⟨f2, ?_⟩
  unfold fX1_isLeapt at h
  obtain ⟨u1, _, h⟩ := ob h
  obtain ⟨w5, _, h⟩ := ob h
  unfold bX1_isLeapt_43 at h
  obtain ⟨I6, e6, h⟩ := ob h
  rw [pU_n, obs] at h
  have f6 : I6 k 1 = I k 1 := by rw [← (wI_some e6).2.2, g_up_row (by omega)]
  have p1 : (I k 1 + 1).toInt = (I k 1).toInt + 1 := tA rfl t1i (by omega) (by omega)
  have key : r.2 k 1 = I k 1 + 1 := by
    obtain ⟨u8, _, h⟩ := ob h
    rcases oi h with ⟨_, h⟩ | ⟨_, h⟩
    · obtain rfl := Option.some.inj h
      show g_up I6 k 1 (I6 k 1 + 1) k 1 = _
      rw [g_up_self, f6]
    · obtain rfl := Option.some.inj h
      show g_up I6 k 1 (I6 k 1 + 1) k 1 = _
      rw [g_up_self, f6]
  rw [key, p1]
  omega
theorem lp_deepen {k : Nat} {rec : Int32 → gM → Option gM} {L : Int} {m : Nat} (hrec : LB rec k L m) {v1 v2 : Int32} {I r : gM} (h : fX1_deepen rec k v1 v2 I = some r) (hL : (I k 2).toInt = L) (hm : L - v1.toInt ≤ (m : Int) + 1) (h0 : 0 ≤ (I k 1).toInt) (h1 : (I k 1).toInt + lb m < 2147483647) : r k 2 = I k 2 ∧ 0 ≤ (r k 1).toInt ∧ (r k 1).toInt ≤ (I k 1).toInt + lb m := by
  unfold fX1_deepen at h
  obtain ⟨u1, e1, h⟩ := ob h
  obtain ⟨I2, e2, h⟩ := ob h
  obtain ⟨u3, _, h⟩ := ob h
  obtain ⟨u4, _, h⟩ := ob h
  obtain ⟨I5, e5, h⟩ := ob h
  have r1 := rI_some e1
  have p1 : (v1 + 1).toInt = v1.toInt + 1 := tA rfl t1i (by omega) (by omega)
  have f5 : I5 k = I k := by rw [← (wI_some e5).2.2, g_up_row (by omega), ← (wI_some e2).2.2, g_up_row (by omega)]
  rcases oi h with ⟨_, h⟩ | ⟨_, h⟩
  · rcases oi h with ⟨_, h⟩ | ⟨_, h⟩
    · obtain rfl := Option.some.inj h
      rw [f5]
      exact ⟨rfl, h0, by omega⟩
    · obtain ⟨u6, _, h⟩ := ob h
      obtain ⟨I7, e7, h⟩ := ob h
      rw [pU_n, obs] at h
      obtain rfl := Option.some.inj h
      have f7 : I7 k = I k := by rw [← (wI_some e7).2.2, g_up_row (by omega), f5]
      rw [g_up_ne (Or.inr (by decide)), g_up_ne (Or.inr (by decide)), f7]
      exact ⟨rfl, h0, by omega⟩
  · obtain ⟨r9, e9, h⟩ := ob h
    obtain ⟨r10, e10, h⟩ := ob h
    obtain rfl := Option.some.inj h
    have f9 : r9 k = I k := by rw [zfX1_narrow k v1 v2 I5 e9 k (by omega) (by omega), f5]
    have q := hrec _ _ _ e10 (by rw [f9]; exact hL) (by rw [p1]; omega) (by rw [f9]; exact h0) (by rw [f9]; exact h1)
    rw [f9] at q
    exact q
theorem lp_searchB {k : Nat} {rec : Int32 → gM → Option gM} {L : Int} {m : Nat} (hrec : LB rec k L m) : LB (fun d I => fX1_searchB rec k d I) k L (m + 1) := by
  intro v1 I r h hL hm h0 h1
  have h : fX1_searchB rec k v1 I = some r := h
  have lm : lb (m + 1) = 48 * (lb m + 1) := rfl
  unfold fX1_searchB at h
  rcases oi h with ⟨_, h⟩ | ⟨_, h⟩
  · obtain rfl := Option.some.inj h
    exact ⟨rfl, h0, by omega⟩
  · obtain ⟨r1, e1, h⟩ := ob h
    have f1 : r1.2 k = I k := zfX1_isOpened k v1 I e1 k (by omega)
    rcases oi h with ⟨_, h⟩ | ⟨_, h⟩
    · obtain rfl := Option.some.inj h
      rw [f1]
      exact ⟨rfl, h0, by omega⟩
    · obtain ⟨w, ew, h⟩ := ob h
      have hm' : L - v1.toInt ≤ (m : Int) + 1 := by omega
      have key : ∀ s : Int32 × gM, lX1_search_19 rec k v1 s = some w → ∀ c : Nat, c ≤ 48 → s.1 = nI c → s.2 k 2 = I k 2 → 0 ≤ (s.2 k 1).toInt → (s.2 k 1).toInt ≤ (I k 1).toInt + (c * (lb m + 1) : Nat) → (Sum.elim (fun x : gM => x) (fun x : gM => x) w) k 2 = I k 2 ∧ 0 ≤ ((Sum.elim (fun x : gM => x) (fun x : gM => x) w) k 1).toInt ∧ ((Sum.elim (fun x : gM => x) (fun x : gM => x) w) k 1).toInt ≤ (I k 1).toInt + lb (m + 1) := by
        unfold lX1_search_19
        refine itO_ind (P := fun s : Int32 × gM => ∀ c : Nat, c ≤ 48 → s.1 = nI c → s.2 k 2 = I k 2 → 0 ≤ (s.2 k 1).toInt → (s.2 k 1).toInt ≤ (I k 1).toInt + (c * (lb m + 1) : Nat) → (Sum.elim (fun x : gM => x) (fun x : gM => x) w) k 2 = I k 2 ∧ 0 ≤ ((Sum.elim (fun x : gM => x) (fun x : gM => x) w) k 1).toInt ∧ ((Sum.elim (fun x : gM => x) (fun x : gM => x) w) k 1).toInt ≤ (I k 1).toInt + lb (m + 1)) (fun s y h hl hr => ?_)
        intro c hc e1 a2 a0 a1
        have cm : c * (lb m + 1) ≤ 48 * (lb m + 1) := Nat.mul_le_mul_right _ hc
        have out : ∀ {N : gM}, y = .inr (.inl N) ∨ y = .inr (.inr N) → N k 2 = I k 2 → 0 ≤ (N k 1).toInt → (N k 1).toInt ≤ (I k 1).toInt + lb (m + 1) → (Sum.elim (fun x : gM => x) (fun x : gM => x) w) k 2 = I k 2 ∧ 0 ≤ ((Sum.elim (fun x : gM => x) (fun x : gM => x) w) k 1).toInt ∧ ((Sum.elim (fun x : gM => x) (fun x : gM => x) w) k 1).toInt ≤ (I k 1).toInt + lb (m + 1) := fun {N} hy b2 b0 b1 => by
          rcases hy with rfl | rfl
          · have := hr _ rfl
            subst this
            exact ⟨b2, b0, b1⟩
          · have := hr _ rfl
            subst this
            exact ⟨b2, b0, b1⟩
        rcases oi h with ⟨_, h⟩ | ⟨c48, h⟩
        · obtain rfl := Option.some.inj h
          exact out (Or.inr rfl) a2 a0 (by rw [lm]; omega)
        · rw [e1] at c48
          have c48 := mt (nI_leI (a := 48) (b := c) (by omega) (by omega)).mpr c48
          have cm1 : (c + 1) * (lb m + 1) ≤ 48 * (lb m + 1) := Nat.mul_le_mul_right _ (by omega)
          have cs : (c + 1) * (lb m + 1) = c * (lb m + 1) + (lb m + 1) := Nat.succ_mul _ _
          generalize hX : c * (lb m + 1) = X at *
          obtain ⟨r2, _, h⟩ := ob h
          obtain ⟨r3, _, h⟩ := ob h
          have fin : ∀ {v3 v4 : Int32} {N : gM}, bX1_search_63 rec k v1 s.1 v3 v4 N = some y → N k 2 = I k 2 → 0 ≤ (N k 1).toInt → (N k 1).toInt ≤ (I k 1).toInt + (X + lb m : Nat) → (Sum.elim (fun x : gM => x) (fun x : gM => x) w) k 2 = I k 2 ∧ 0 ≤ ((Sum.elim (fun x : gM => x) (fun x : gM => x) w) k 1).toInt ∧ ((Sum.elim (fun x : gM => x) (fun x : gM => x) w) k 1).toInt ≤ (I k 1).toInt + lb (m + 1) := by
            intro v3 v4 N h b2 b0 b1
            unfold bX1_search_63 at h
            rcases oi h with ⟨_, h⟩ | ⟨_, h⟩
            · obtain rfl := Option.some.inj h
              exact out (Or.inl rfl) b2 b0 (by omega)
            · obtain ⟨r6, e6, h⟩ := ob h
              obtain ⟨g2, g0, g1⟩ := lp_isLeapt e6 b0 (by omega)
              rcases oi h with ⟨_, h⟩ | ⟨_, h⟩
              · obtain rfl := Option.some.inj h
                exact out (Or.inl rfl) (g2.trans b2) g0 (by omega)
              · obtain rfl := Option.some.inj h
                exact hl _ rfl (c + 1) (by omega) (by rw [e1, nI_1]) (g2.trans b2) g0 (by rw [cs]; dsimp only; omega)
          rcases oi h with ⟨_, h⟩ | ⟨_, h⟩
          · obtain ⟨r4, e4, h⟩ := ob h
            obtain ⟨r5, _, h⟩ := ob h
            obtain ⟨g2, g0, g1⟩ := lp_deepen hrec e4 (by rw [a2]; exact hL) hm' a0 (by omega)
            exact fin h (g2.trans a2) g0 (by omega)
          · exact fin h a2 a0 (by omega)
      have q := key _ ew 0 (by omega) rfl (by rw [f1]) (by rw [f1]; exact h0) (by rw [f1]; omega)
      rcases w with w | w
      · have h : some w = some r := h
        obtain rfl := Option.some.inj h
        exact q
      · have h : some w = some r := h
        obtain rfl := Option.some.inj h
        exact q
theorem lp_done {n k : Nat} {L : Int} : LB (fun d I => fX1_search n k d I) k L 0 := by
  intro d I r h hL hm h0 h1
  cases n with
  | zero => cases h
  | succ n =>
    have h : fX1_searchB (fun d I => fX1_search n k d I) k d I = some r := h
    unfold fX1_searchB at h
    rw [if_pos (by rw [Int32.le_iff_toInt_le]; omega)] at h
    obtain rfl := Option.some.inj h
    exact ⟨rfl, h0, by omega⟩
theorem lp_search {k : Nat} {L : Int} : ∀ (m n : Nat), LB (fun d I => fX1_search n k d I) k L m
  | 0, _ => lp_done
  | m + 1, 0 => fun _ _ _ h => by cases h
  | m + 1, n + 1 => lp_searchB (lp_search m n)
theorem leaps_nn {k k1 : Nat} {o : Int32} {I r : gM} (h : fX1_findBy k k1 o I = some r) (h4 : (r k 2).toInt ≤ 4) : 0 ≤ (r k 1).toInt ∧ (r k 1).toInt ≤ lb 4 := by
  unfold fX1_findBy at h
  obtain ⟨r1, _, h⟩ := ob h
  obtain ⟨I2, _, h⟩ := ob h
  obtain ⟨w9, _, h⟩ := ob h
  obtain ⟨r10, e10, h⟩ := ob h
  obtain ⟨r11, e11, h⟩ := ob h
  obtain rfl := Option.some.inj h
  have k2 : r11 k 2 = r10 k 2 := xfX1_search 6 k 0 r10 e11 k 2 (by omega) (by omega) (by omega) (by omega) (by omega) (by omega) (by omega) (by omega)
  have z : r10 k 1 = 0 := by
    unfold fX1_open at e10
    rw [pU_n, obs, pU_n, obs] at e10
    obtain ⟨r3, e3, e10⟩ := ob e10
    obtain ⟨r4, e4, e10⟩ := ob e10
    obtain ⟨w9', e9, e10⟩ := ob e10
    obtain rfl := Option.some.inj e10
    have f9 : w9' k = r4 k := zlX1_open_28 _ _ _ e9 k (by omega) (by omega) (by omega) (by omega) (by omega)
    rw [f9, zfJ7_fill_53178 _ _ _ _ e4 k (by omega), zfJ7_fill_53178 _ _ _ _ e3 k (by omega), g_up_self]
  have q := lp_search (L := (r10 k 2).toInt) 4 6 0 r10 r11 e11 rfl (by rw [← k2, t0i]; omega) (by rw [z]; decide) (by rw [z]; decide)
  rw [z] at q
  have := q.2
  rw [t0i] at this
  omega
end P_35r_43i_leaps
section P_35r_43j_best
/-! best: both weigh all orders -/
theorem mX_eq (a b : Int32) : mX a b = if b ≤ a then a else b := by
  unfold mX
  by_cases c : a < b
  · rw [if_pos c, if_neg]
    rw [Int32.le_iff_toInt_le]
    rw [Int32.lt_iff_toInt_lt] at c
    omega
  · rw [if_neg c, if_pos]
    rw [Int32.le_iff_toInt_le]
    rw [Int32.lt_iff_toInt_lt] at c
    omega
theorem cw_end {M : gM} : lX7_weigh_10 3 29 (nI 24, M) = some M := by
  unfold lX7_weigh_10
  refine it_r ?_
  dsimp only
  rw [if_pos (show (24 : Int32) ≤ nI 24 by decide)]
theorem nw_end {R : gM} : lX9_triesOrders_12 (nI 24, R) = some R := by
  unfold lX9_triesOrders_12
  refine it_r ?_
  dsimp only
  rw [if_pos (show (24 : Int32) ≤ nI 24 by decide)]
theorem cw_step {i : Nat} {M r : gM} (hi : i < 24) (e : fX1_findBy 29 3 (nI i) M = some r) : ∃ N, lX7_weigh_10 3 29 (nI i, M) = lX7_weigh_10 3 29 (nI (i + 1), N) ∧ (∀ q, q ≠ 43 → N q = r q) ∧ (i = 0 → N 43 1 = nI 0 ∧ N 43 2 = r 29 1 ∧ N 43 3 = r 29 1) ∧ (i ≠ 0 → N 43 1 = (if r 43 2 ≤ r 29 1 then r 43 1 else nI i) ∧ N 43 2 = (if r 43 2 ≤ r 29 1 then r 43 2 else r 29 1) ∧ N 43 3 = if r 29 1 ≤ r 43 3 then r 43 3 else r 29 1) := by
  have hb : ¬ (24 : Int32) ≤ nI i := fun z => absurd ((nI_leI (a := 24) (by omega) (by omega)).mp z) (by omega)
  have iz : nI i = 0 ↔ i = 0 := ⟨fun z => nI_inj (b := 0) z (by omega) (by omega), fun z => by rw [z]; rfl⟩
  have k50 : ∀ {K : gM}, (∀ q, q ≠ 43 → K q = r q) → ∃ N, bX7_weigh_50 29 (nI i) K = some (.inl (nI (i + 1), N)) ∧ (∀ q, q ≠ 43 → N q = r q) ∧ N 43 1 = K 43 1 ∧ N 43 2 = K 43 2 ∧ (i = 0 → N 43 3 = r 29 1) ∧ (i ≠ 0 → N 43 3 = if r 29 1 ≤ K 43 3 then K 43 3 else r 29 1) := by
    intro K hK
    have h29 : K 29 = r 29 := hK 29 (by omega)
    unfold bX7_weigh_50 bX7_weigh_65 bX7_weigh_73
    rw [pU_n, obs, nI_1, h29]
    have up : (∀ q, q ≠ 43 → g_up K 43 3 (r 29 1) q = r q) ∧ g_up K 43 3 (r 29 1) 43 1 = K 43 1 ∧ g_up K 43 3 (r 29 1) 43 2 = K 43 2 ∧ g_up K 43 3 (r 29 1) 43 3 = r 29 1 := ⟨fun q hq => by rw [g_up_row hq]; exact hK q hq, g_up_ne (Or.inr (by decide)), g_up_ne (Or.inr (by decide)), g_up_self⟩
    by_cases c0 : i = 0
    · rw [if_pos (iz.mpr c0)]
      exact ⟨_, rfl, up.1, up.2.1, up.2.2.1, fun _ => up.2.2.2, fun z => absurd c0 z⟩
    · rw [if_neg (mt iz.mp c0)]
      by_cases c : r 29 1 ≤ K 43 3
      · rw [if_pos c]
        exact ⟨_, rfl, hK, rfl, rfl, fun z => absurd z c0, fun _ => by rw [if_pos c]⟩
      · rw [if_neg c]
        exact ⟨_, rfl, up.1, up.2.1, up.2.2.1, fun z => absurd z c0, fun _ => by rw [if_neg c]; exact up.2.2.2⟩
  have k37 : ∃ N, bX7_weigh_37 29 (nI i) r = some (.inl (nI (i + 1), N)) ∧ (∀ q, q ≠ 43 → N q = r q) ∧ N 43 1 = nI i ∧ N 43 2 = r 29 1 ∧ (i = 0 → N 43 3 = r 29 1) ∧ (i ≠ 0 → N 43 3 = if r 29 1 ≤ r 43 3 then r 43 3 else r 29 1) := by
    unfold bX7_weigh_37
    rw [pU_n, obs, pU_n, obs, g_up_row (show 29 ≠ 43 by decide)]
    obtain ⟨N, h1, h2, h3, h4, h5, h6⟩ := k50 (K := g_up (g_up r 43 1 (nI i)) 43 2 (r 29 1)) (fun q hq => by rw [g_up_row hq, g_up_row hq])
    refine ⟨N, h1, h2, h3.trans ?_, h4.trans g_up_self, h5, fun z => ?_⟩
    · rw [g_up_ne (Or.inr (by decide)), g_up_self]
    · rw [h6 z, g_up_ne (Or.inr (by decide)), g_up_ne (Or.inr (by decide))]
  by_cases c0 : i = 0
  · obtain ⟨N, h1, h2, h3, h4, h5, _⟩ := k37
    refine ⟨N, ?_, h2, fun _ => ⟨by rw [h3, c0], h4, h5 c0⟩, fun z => absurd c0 z⟩
    unfold lX7_weigh_10
    refine it_l ?_
    dsimp only
    rw [if_neg hb, e, obs, if_pos (iz.mpr c0), h1]
  · by_cases c : r 43 2 ≤ r 29 1
    · obtain ⟨N, h1, h2, h3, h4, _, h6⟩ := k50 (K := r) (fun _ _ => rfl)
      refine ⟨N, ?_, h2, fun z => absurd z c0, fun _ => ⟨by rw [if_pos c]; exact h3, by rw [if_pos c]; exact h4, h6 c0⟩⟩
      unfold lX7_weigh_10
      refine it_l ?_
      dsimp only
      rw [if_neg hb, e, obs, if_neg (mt iz.mp c0), if_pos c, h1]
    · obtain ⟨N, h1, h2, h3, h4, _, h6⟩ := k37
      refine ⟨N, ?_, h2, fun z => absurd z c0, fun _ => ⟨by rw [if_neg c]; exact h3, by rw [if_neg c]; exact h4, h6 c0⟩⟩
      unfold lX7_weigh_10
      refine it_l ?_
      dsimp only
      rw [if_neg hb, e, obs, if_neg (mt iz.mp c0), if_neg c, h1]
theorem nw_step {i : Nat} {R r : gM} (hi : i < 24) (e : fX9_joins (nI i) R = some r) : ∃ N, lX9_triesOrders_12 (nI i, R) = lX9_triesOrders_12 (nI (i + 1), N) ∧ (∀ q j, q ≠ 62 ∨ j ≠ 31 ∧ j ≠ 32 ∧ j ≠ 33 → N q j = r q j) ∧ N 62 33 = mX (r 62 33) (r 62 27) ∧ N 62 31 = (if r 62 31 ≠ -1 ∧ r 62 32 ≤ r 62 27 then r 62 31 else nI i) ∧ N 62 32 = if r 62 31 ≠ -1 ∧ r 62 32 ≤ r 62 27 then r 62 32 else r 62 27 := by
  have hb : ¬ (24 : Int32) ≤ nI i := fun z => absurd ((nI_leI (a := 24) (by omega) (by omega)).mp z) (by omega)
  have k55 : ∀ K : gM, bX9_triesOrders_55 (nI i) K = some (.inl (nI (i + 1), g_up K 62 33 (mX (K 62 33) (K 62 27)))) := fun K => by
    unfold bX9_triesOrders_55
    rw [pU_n, obs, nI_1]
  have k42 : bX9_triesOrders_42 (nI i) r = some (.inl (nI (i + 1), g_up (g_up (g_up r 62 31 (nI i)) 62 32 (r 62 27)) 62 33 (mX (r 62 33) (r 62 27)))) := by
    unfold bX9_triesOrders_42
    rw [pU_n, obs, pU_n, obs, k55, g_up_ne (show 62 ≠ 62 ∨ 27 ≠ 31 from Or.inr (by decide)), g_up_ne (show 62 ≠ 62 ∨ 33 ≠ 32 from Or.inr (by decide)), g_up_ne (show 62 ≠ 62 ∨ 33 ≠ 31 from Or.inr (by decide)), g_up_ne (show 62 ≠ 62 ∨ 27 ≠ 32 from Or.inr (by decide)), g_up_ne (show 62 ≠ 62 ∨ 27 ≠ 31 from Or.inr (by decide))]
  by_cases c : r 62 31 ≠ -1 ∧ r 62 32 ≤ r 62 27
  · refine ⟨g_up r 62 33 (mX (r 62 33) (r 62 27)), ?_, fun q j h => ?_, g_up_self, ?_, ?_⟩
    · unfold lX9_triesOrders_12
      refine it_l ?_
      dsimp only
      rw [if_neg hb, e, obs, if_neg c.1, if_pos c.2, k55]
    · exact g_up_ne (by omega)
    · rw [if_pos c, g_up_ne (Or.inr (by decide))]
    · rw [if_pos c, g_up_ne (Or.inr (by decide))]
  · refine ⟨g_up (g_up (g_up r 62 31 (nI i)) 62 32 (r 62 27)) 62 33 (mX (r 62 33) (r 62 27)), ?_, fun q j h => ?_, g_up_self, ?_, ?_⟩
    · unfold lX9_triesOrders_12
      refine it_l ?_
      dsimp only
      rw [if_neg hb, e, obs]
      by_cases c1 : r 62 31 = -1
      · rw [if_pos c1, k42]
      · rw [if_neg c1, if_neg (fun z => c ⟨c1, z⟩), k42]
    · rw [g_up_ne (by omega), g_up_ne (by omega), g_up_ne (by omega)]
    · rw [if_neg c, g_up_ne (Or.inr (by decide)), g_up_ne (Or.inr (by decide)), g_up_self]
    · rw [if_neg c, g_up_ne (Or.inr (by decide)), g_up_self]
theorem weigh_go {I0 R0 : gM} {A : aT} (hW : WF A) (h0 : 0 < A.1.length) : ∀ (d i : Nat) (M R : gM), i + d = 24 → CT M 3 A → M 33 0 = 0 → MI false R0 R → RT R (R 70) A → (i = 0 → R 62 31 = -1 ∧ R 62 33 = 0) → (i ≠ 0 → R 62 31 ≠ -1 ∧ M 43 1 = R 62 31 ∧ M 43 2 = R 62 32 ∧ M 43 3 = R 62 33) → ∃ M' R', lX7_weigh_10 3 29 (nI i, M) = some M' ∧ lX9_triesOrders_12 (nI i, R) = some R' ∧ M' 43 1 = R' 62 31 ∧ M' 43 2 = R' 62 32 ∧ M' 43 3 = R' 62 33 := by
  intro d
  induction d with
  | zero =>
    intro i M R hi hC hz hM hR _ h
    obtain rfl : i = 24 := by omega
    obtain ⟨_, a, b, c⟩ := h (by omega)
    exact ⟨M, R, cw_end, nw_end, a, b, c⟩
  | succ d ih =>
    intro i M R hi hC hz hM hR hA hB
    obtain ⟨M', R', J, f1, f2, o, hJ, hS, hQ, _, f3⟩ := find_two (I0 := I0) (k := 29) (k1 := 3) (o := i) (by omega) hM hW h0 hC hR hz (by omega)
    have s4 : (fl4 i (asA A)).length ≤ 4 := (okS_fl4 (by omega) (asA_lt hW)).1
    have L0 : 0 ≤ (M' 29 1).toInt := (leaps_nn f1 (by rw [hS.1, tnI (by omega)]; omega)).1
    have Le : M' 29 1 = R' 62 27 := o.2.2.1
    obtain ⟨N, n1, n2, n3, n4⟩ := cw_step (by omega) f1
    obtain ⟨K, k1, k2, k3, k4, k5⟩ := nw_step (by omega) f2
    have M1 : MI false R0 R' := by
      obtain ⟨p, ep, hp, _⟩ := tfX9_joins (nI i) R hM (by rw [tnI (by omega)]; omega)
      rw [f2] at ep
      obtain rfl := Option.some.inj ep
      exact hp
    have r62 : ∀ j, j = 31 ∨ j = 32 ∨ j = 33 ∨ j = 17 → R' 62 j = R 62 j := fun j hj => xfX9_joins _ _ f2 62 j (by omega) (by omega) (by omega) (by omega) (by omega) (by omega) (by omega) (by omega) (by omega) (by omega)
    have rk : ∀ q, q = 70 ∨ q = 72 ∨ q = 73 → R' q = R q := fun q hq => zfX9_joins _ _ f2 q (by omega) (by omega) (by omega) (by omega) (by omega) (by omega) (by omega) (by omega)
    have m43 : M' 43 = M 43 := f3.1 43 (by omega)
    have KK : ∀ q, q ≠ 62 → K q = R' q := fun q hq => funext fun j => k2 q j (Or.inl hq)
    have MK : MI false R0 K := by
      refine ⟨fun q j => ?_, fun q hq => ?_⟩
      · by_cases c : q = 62 ∧ (j = 31 ∨ j = 32 ∨ j = 33)
        · obtain ⟨rfl, c⟩ := c
          rcases c with rfl | rfl | rfl
          · exact tTop _
          · exact tTop _
          · exact tTop _
        · rw [k2 q j (by omega)]
          exact M1.1 q j
      · have ne : q ≠ 62 := fun z => by rw [z] at hq; exact absurd hq (by decide)
        rw [KK q ne]
        exact M1.2 q hq
    have CN : CT N 3 A := by
      have lo : ∀ q, q ≤ 7 → N q = M q := fun q hq => (n2 q (by omega)).trans (f3.1 q (by omega))
      exact hC.cong (fun j _ => by rw [lo 3 (by omega)]) (lo _ (by omega)) (lo _ (by omega)) (lo _ (by omega)) (lo _ (by omega))
    have z33 : N 33 0 = 0 := by rw [n2 33 (by omega)]; exact f3.2.2.trans hz
    have RK : RT K (K 70) A := by
      rw [KK 70 (by omega), rk 70 (by omega)]
      exact hR.cong (by rw [k2 62 17 (Or.inr (by decide)), r62 17 (by omega)]) (by rw [KK 72 (by omega), rk 72 (by omega)]) (by rw [KK 73 (by omega), rk 73 (by omega)]) hW.1 hW.k12 (fun _ _ => rfl)
    rw [n1, k1]
    refine ih (i + 1) N K (by omega) CN z33 MK RK (fun z => absurd z (by omega)) (fun _ => ?_)
    by_cases c0 : i = 0
    · obtain ⟨g1, g2⟩ := hA c0
      obtain ⟨p1, p2, p3⟩ := n3 c0
      have nn : ¬ (R' 62 31 ≠ -1 ∧ R' 62 32 ≤ R' 62 27) := fun z => z.1 (by rw [r62 31 (by omega)]; exact g1)
      rw [if_neg nn] at k4 k5
      rw [k4, k5, k3, p1, p2, p3, c0, Le, r62 33 (by omega), g2]
      refine ⟨by decide, rfl, rfl, ?_⟩
      rw [mX_eq]
      by_cases c : R' 62 27 ≤ 0
      · rw [if_pos c]
        rw [Int32.le_iff_toInt_le, t0i] at c
        rw [Le] at L0
        exact Int32.toInt_inj.mp (by rw [t0i]; omega)
      · rw [if_neg c]
    · obtain ⟨g0, g1, g2, g3⟩ := hB c0
      obtain ⟨p1, p2, p3⟩ := n4 c0
      have q31 : R' 62 31 = M' 43 1 := by rw [r62 31 (by omega), m43, g1]
      have q32 : R' 62 32 = M' 43 2 := by rw [r62 32 (by omega), m43, g2]
      have q33 : R' 62 33 = M' 43 3 := by rw [r62 33 (by omega), m43, g3]
      have n31 : R' 62 31 ≠ -1 := by rw [r62 31 (by omega)]; exact g0
      have e3 : N 43 3 = K 62 33 := by rw [p3, k3, mX_eq, q33, Le]
      by_cases c : M' 43 2 ≤ M' 29 1
      · have c' : R' 62 31 ≠ -1 ∧ R' 62 32 ≤ R' 62 27 := ⟨n31, by rw [q32, ← Le]; exact c⟩
        rw [if_pos c] at p1 p2
        rw [if_pos c'] at k4 k5
        exact ⟨by rw [k4]; exact n31, by rw [p1, k4, q31], by rw [p2, k5, q32], e3⟩
      · have c' : ¬ (R' 62 31 ≠ -1 ∧ R' 62 32 ≤ R' 62 27) := fun z => c (by rw [← q32, Le]; exact z.2)
        rw [if_neg c] at p1 p2
        rw [if_neg c'] at k4 k5
        exact ⟨by rw [k4]; exact nI_ne1 (by omega), by rw [p1, k4], by rw [p2, k5, Le], e3⟩
/-- the class's weights, new or kept, are those of the tables -/
theorem weigh_cur {I r : gM} (h : JX I) (n : I 3 0 ≠ 0) (e : fX7_weigh 3 29 I = some r) : ∃ I8 w, (∀ q, 3 ≤ q ∧ q ≤ 7 → I8 q = I q) ∧ I8 33 0 = 0 ∧ lX7_weigh_10 3 29 (nI 0, I8) = some w ∧ r 43 1 = w 43 1 ∧ r 43 2 = w 43 2 ∧ r 43 3 = w 43 3 := by
  have new : ∀ {K s : gM}, K 43 0 = 0 → fX7_weigh 3 29 K = some s → ∃ w, lX7_weigh_10 3 29 (nI 0, K) = some w ∧ s 43 1 = w 43 1 ∧ s 43 2 = w 43 2 ∧ s 43 3 = w 43 3 := fun {K s} z e => by
    unfold fX7_weigh at e
    rw [if_pos z] at e
    obtain ⟨w, ew, e⟩ := ob e
    rw [pU_n, obs] at e
    obtain rfl := Option.some.inj e
    exact ⟨w, ew, g_up_ne (Or.inr (by decide)), g_up_ne (Or.inr (by decide)), g_up_ne (Or.inr (by decide))⟩
  by_cases c : I 43 0 = 0
  · obtain ⟨w, a, b⟩ := new c e
    exact ⟨I, w, fun _ _ => rfl, h.2.1, a, b⟩
  · have e' := e
    unfold fX7_weigh at e'
    rw [if_neg c] at e'
    obtain rfl := Option.some.inj e'
    rcases (h.2.2 n).2 with z | ⟨I8, M', a1, a2, a3, a4, a5⟩
    · exact absurd z c
    · obtain ⟨w, b1, b2, b3, b4⟩ := new a3 a4
      exact ⟨I8, w, a1, a2, b1, (a5 1).trans b2, (a5 2).trans b3, (a5 3).trans b4⟩
theorem weigh_two {I r R0 R : gM} {A : aT} (h : JX I) (hW : WF A) (h0 : 0 < A.1.length) (hC : CT I 3 A) (hM : MI false R0 R) (hR : RT R (R 70) A) (e : fX7_weigh 3 29 I = some r) : ∃ R', fX9_triesOrders R = some R' ∧ r 43 1 = R' 62 31 ∧ r 43 2 = R' 62 32 ∧ r 43 3 = R' 62 33 := by
  have n0 : I 3 0 ≠ 0 := fun z => by have := (hC.n0 hW).mp z; omega
  obtain ⟨I8, w, a1, a2, a3, a4, a5, a6⟩ := weigh_cur h n0 e
  have hC8 : CT I8 3 A := hC.cong (fun j _ => by rw [a1 3 (by omega)]) (a1 4 (by omega)) (a1 5 (by omega)) (a1 6 (by omega)) (a1 7 (by omega))
  have M2 : MI false R0 (g_up (g_up R 62 31 (-1)) 62 33 0) := (hM.up (k := 62) (j := 31) rfl (lo := top.1) (hi := top.2) rfl (tTop _).1 (tTop _).2).up (k := 62) (j := 33) rfl (lo := top.1) (hi := top.2) rfl (tTop _).1 (tTop _).2
  have R2 : RT (g_up (g_up R 62 31 (-1)) 62 33 0) ((g_up (g_up R 62 31 (-1)) 62 33 0) 70) A := by
    rw [g_up_row (show 70 ≠ 62 by decide), g_up_row (show 70 ≠ 62 by decide)]
    exact hR.cong (by rw [g_up_ne (Or.inr (by decide)), g_up_ne (Or.inr (by decide))]) (by rw [g_up_row (by decide), g_up_row (by decide)]) (by rw [g_up_row (by decide), g_up_row (by decide)]) hW.1 hW.k12 (fun _ _ => rfl)
  obtain ⟨M', R', b1, b2, b3, b4, b5⟩ := weigh_go (I0 := I) hW h0 24 0 I8 _ (by omega) hC8 a2 M2 R2 (fun _ => ⟨by rw [g_up_ne (Or.inr (by decide)), g_up_self], g_up_self⟩) (fun z => absurd rfl z)
  rw [a3] at b1
  obtain rfl := Option.some.inj b1
  refine ⟨R', ?_, a4.trans b3, a5.trans b4, a6.trans b5⟩
  unfold fX9_triesOrders
  rw [pU_n, obs, pU_n, obs]
  have b2 : lX9_triesOrders_12 ((0 : Int32), g_up (g_up R 62 31 (-1)) 62 33 0) = some R' := b2
  rw [b2, obs]
theorem eq_best {I : gM} (h : InvB I) {v : Int32} {a b : Int32 × gM} (e1 : fX8_best v I = some a) (e2 : fX9_best v a.2 = some b) : a.1 = b.1 := by
  obtain ⟨A, hW, hC, hR⟩ := h.tab
  have hMa : MI true I a.2 := by
    obtain ⟨p, ep, hp⟩ := tfX8_best v I h.1.1
    rw [e1] at ep
    obtain rfl := Option.some.inj ep
    exact hp
  have hRa := hR.hi hMa hW
  unfold fX8_best at e1
  unfold fX9_best at e2
  rw [n_areTables hW.1 hRa.1, obs] at e2
  by_cases n : A.1.length = 0
  · rw [if_pos ((hC.n0 hW).mpr n)] at e1
    rw [if_pos n, if_pos rfl] at e2
    cases e1; cases e2; rfl
  · rw [if_neg (mt (hC.n0 hW).mp n)] at e1
    rw [if_neg n, if_neg (by decide)] at e2
    have t1 : (1 : Int32).toInt = 1 := by decide
    have hin := n_in v 0 1
    rw [t0i, t1] at hin
    rcases oi e1 with ⟨c, e1⟩ | ⟨c, e1⟩
    · rw [Int32.lt_iff_toInt_lt, t0i] at c
      rcases hin with ⟨z1, _, _⟩ | ⟨_, z⟩
      · omega
      · rw [z, obs, if_pos rfl] at e2
        cases e1; cases e2; rfl
    · rw [Int32.lt_iff_toInt_lt, t0i] at c
      rcases oi e1 with ⟨d, e1⟩ | ⟨d, e1⟩
      · rw [Int32.le_iff_toInt_le, t1] at d
        rcases hin with ⟨_, _, z⟩ | ⟨z, _⟩
        · obtain ⟨r1, er, e1⟩ := ob e1
          obtain ⟨R', f1, f2, f3, _⟩ := weigh_two h.2.1 hW (by omega) hC hMa.re hRa er
          rw [z, obs, if_neg (by decide), f1, obs] at e2
          rcases oi e1 with ⟨y, e1⟩ | ⟨y, e1⟩
          · rw [if_pos y] at e2
            cases e1; cases e2; exact f2
          · rw [if_neg y] at e2
            cases e1; cases e2; exact f3
        · exact absurd ⟨by omega, by omega⟩ z
      · rw [Int32.le_iff_toInt_le, t1] at d
        rcases hin with ⟨_, _, _⟩ | ⟨_, z⟩
        · omega
        · rw [z, obs, if_pos rfl] at e2
          cases e1; cases e2; rfl
end P_35r_43j_best
section P_35r_43k_most
/-! most -/
def pc12 (B : Nat) : Nat := suUp (fun i => B / 2 ^ i % 2) 12
theorem bc_all0 : ∀ a, a < 64 → ∀ b, b < 64 → fJ6_bitCount_0f7a4 (nI (64 * a + b)) = some (nI (pc12 (64 * a + b))) := by decide +kernel
theorem bc_n {B : Nat} (h : B < 4096) : fJ6_bitCount_0f7a4 (nI B) = some (nI (pc12 B)) := by
  have := bc_all0 (B / 64) (by omega) (B % 64) (by omega)
  rwa [show 64 * (B / 64) + B % 64 = B by omega] at this
theorem n_bits {B : Nat} (h : B < 4096) : fX9_bits (nI B) = some (nI (pc12 B)) := by
  have key : lX9_bits_4 (nI B) (nI 0, nI 0) = some (nI (pc12 B)) := by
    unfold lX9_bits_4
    refine p_it (P := fun s => ∃ c, c ≤ 12 ∧ s = (nI (suUp (fun i => B / 2 ^ i % 2) c), nI c)) (μ := fun s => 20 - s.2.toInt.toNat) (fun s p => ?_) ⟨0, by omega, rfl⟩
    obtain ⟨c, hc, rfl⟩ := p
    dsimp only
    refine t_ite (fun d => ?_) (fun d => ?_)
    · have := (nI_leI (a := 12) (by omega) (by omega)).mp d
      have : c = 12 := by omega
      subst this
      exact t_ret rfl
    · have := mt (nI_leI (a := 12) (b := c) (by omega) (by omega)).mpr d
      rw [bit_of (by omega) (by omega), nI_add, nI_1]
      exact t_nx ⟨c + 1, by omega, rfl⟩ (show 20 - (nI (c + 1)).toInt.toNat < 20 - (nI c).toInt.toNat by rw [nIt (by omega), nIt (by omega)]; omega)
  unfold fX9_bits
  rw [show ((0 : Int32), (0 : Int32)) = (nI 0, nI 0) from rfl, key, obs]
theorem c_givenRows {M : gM} {t B : Nat} (e : fX0_givenBits 18 3 (nI t) M = some (nI B)) (hB : B < 4096) : fX8_givenRows (nI t) M = some (nI (pc12 B)) := by
  unfold fX8_givenRows
  rw [e, obs, bc_n hB, obs]
/-- the numbers of all rows -/
theorem c_allN {I : gM} {k : Nat} {A : aT} (hW : WF A) (hC : CT I k A) : fX5_allNumbers k I = some (nI (suUp (fun t => suUp (fun i => suUp (fun c => dgt c ((aK A t).getD i 0)) 3) (aK A t).length) A.1.length)) := by
  have hn4 := hW.1
  have inner : ∀ t, t < A.1.length → ∀ a, lX5_allNumbers_14 k (nI t) I (nI a, nI 0) = some (nI (a + suUp (fun i => suUp (fun c => dgt c ((aK A t).getD i 0)) 3) (aK A t).length)) := fun t ht a => by
    have w := hW.2.2.2.2 t ht
    have w4 := w.2.2.2.1
    have hCt := (hC.2.2.2 t ht).2.2
    unfold lX5_allNumbers_14
    refine p_it (P := fun s => ∃ i, i ≤ (aK A t).length ∧ s = (nI (a + suUp (fun i => suUp (fun c => dgt c ((aK A t).getD i 0)) 3) i), nI i)) (μ := fun s => 20 - s.2.toInt.toNat) (fun s p => ?_) ⟨0, by omega, rfl⟩
    obtain ⟨i, hi, rfl⟩ := p
    dsimp only
    refine t_be (rI_n (by omega) (by omega)) ?_
    rw [hCt.1]
    refine t_ite (fun d => ?_) (fun d => ?_)
    · have := (nI_leI (by omega) (by omega)).mp d
      have : i = (aK A t).length := by omega
      rw [this]
      exact t_ret rfl
    · have := mt (nI_leI (a := (aK A t).length) (b := i) (by omega) (by omega)).mpr d
      have kl := k_lt w i (by omega)
      refine t_be (c_rowAt (i := i) (by omega) w4 hCt (by omega)) ?_
      rw [pk_shrN (by omega) 14 14 (by decide), pk_shrN (by omega) 7 7 (by decide), pk_andN (by omega) 7 (by decide), pk_andN (by omega) 7 (by decide), nI_add, nI_add, nI_add, nI_1]
      refine t_nx ⟨i + 1, by omega, ?_⟩ (show 20 - (nI (i + 1)).toInt.toNat < 20 - (nI i).toInt.toNat by rw [nIt (by omega), nIt (by omega)]; omega)
      refine Prod.ext ?_ rfl
      dsimp only
      congr 1
      show _ = a + (suUp _ i + (((0 + dgt 0 _) + dgt 1 _) + dgt 2 _))
      rw [dgt_0, dgt_1, dgt_2, Nat.zero_add, Nat.add_assoc]
  have key : lX5_allNumbers_4 k I (nI 0, nI 0) = some (nI (suUp (fun t => suUp (fun i => suUp (fun c => dgt c ((aK A t).getD i 0)) 3) (aK A t).length) A.1.length)) := by
    unfold lX5_allNumbers_4
    refine p_it (P := fun s => ∃ t, t ≤ A.1.length ∧ s = (nI (suUp (fun t => suUp (fun i => suUp (fun c => dgt c ((aK A t).getD i 0)) 3) (aK A t).length) t), nI t)) (μ := fun s => 20 - s.2.toInt.toNat) (fun s p => ?_) ⟨0, by omega, rfl⟩
    obtain ⟨t, hc, rfl⟩ := p
    dsimp only
    refine t_ite (fun d => ?_) (fun d => ?_)
    · rw [hC.1] at d
      have d := (nI_leI (by omega) (by omega)).mp d
      have : t = A.1.length := by omega
      rw [this]
      exact t_ret rfl
    · rw [hC.1] at d
      have d := mt (nI_leI (a := A.1.length) (b := t) (by omega) (by omega)).mpr d
      refine t_be (inner t (by omega) _) ?_
      rw [nI_1]
      exact t_nx ⟨t + 1, by omega, rfl⟩ (show 20 - (nI (t + 1)).toInt.toNat < 20 - (nI t).toInt.toNat by rw [nIt (by omega), nIt (by omega)]; omega)
  unfold fX5_allNumbers
  rw [show ((0 : Int32), (0 : Int32)) = (nI 0, nI 0) from rfl, key, obs]
theorem suUp_cong {f g : Nat → Nat} : ∀ {n : Nat}, (∀ i, i < n → f i = g i) → suUp f n = suUp g n
  | 0, _ => rfl
  | n + 1, h => by
    show suUp f n + f n = suUp g n + g n
    rw [suUp_cong (fun i hi => h i (by omega)), h n (by omega)]
theorem ds3 {wd q : Nat} (h : kOK wd q) (hw : 1 ≤ wd ∧ wd ≤ 3) : suUp (fun c => dgt c q) wd = suUp (fun c => dgt c q) 3 := by
  rcases (by omega : wd = 1 ∨ wd = 2 ∨ wd = 3) with rfl | rfl | rfl
  · show 0 + dgt 0 q = 0 + dgt 0 q + dgt 1 q + dgt 2 q
    rw [h.2.2.1 (by omega), h.2.2.2.2 (by omega)]; rfl
  · show 0 + dgt 0 q + dgt 1 q = 0 + dgt 0 q + dgt 1 q + dgt 2 q
    rw [h.2.2.2.2 (by omega)]; rfl
  · rfl
theorem n_sumR {R : gM} {A : aT} (hW : WF A) (hR : RT R (R 70) A) : fX9_sumOfRows R = some (nI (suUp (fun t => suUp (fun i => suUp (fun c => dgt c ((aK A t).getD i 0)) 3) (aK A t).length) A.1.length)) := by
  have hn4 := hW.1
  have cols : ∀ t, t < A.1.length → ∀ i, i < (aK A t).length → ∀ a, lX9_sumOfRows_26 (nI t) (nI i) R (nI a, nI 0) = some (nI (a + suUp (fun c => dgt c ((aK A t).getD i 0)) 3)) := fun t ht i hi a => by
    have w := hW.2.2.2.2 t ht
    have w1 := w.1
    have w4 := w.2.2.2.1
    obtain ⟨g1, _, _, g4⟩ := hR.2.2.2 t ht
    rw [← ds3 (w.2.2.2.2.2 i hi) w1]
    unfold lX9_sumOfRows_26
    refine p_it (P := fun s => ∃ c, c ≤ (aL A t).length ∧ s = (nI (a + suUp (fun c => dgt c ((aK A t).getD i 0)) c), nI c)) (μ := fun s => 20 - s.2.toInt.toNat) (fun s p => ?_) ⟨0, by omega, rfl⟩
    obtain ⟨c, hc, rfl⟩ := p
    dsimp only
    refine t_be (rI_n (by omega) (by omega)) ?_
    rw [g1]
    refine t_ite (fun d => ?_) (fun d => ?_)
    · have d := (nI_leI (by omega) (by omega)).mp d
      have : c = (aL A t).length := by omega
      rw [this]
      exact t_ret rfl
    · have d := mt (nI_leI (a := (aL A t).length) (b := c) (by omega) (by omega)).mpr d
      refine t_be (n_rowAt t i) ?_
      rw [nI_add]
      refine t_be (rI_n (by omega) (by omega)) ?_
      rw [g4 i hi c (by omega), if_pos (show c < (aL A t).length by omega), nI_add, nI_1]
      refine t_nx ⟨c + 1, by omega, ?_⟩ (show 20 - (nI (c + 1)).toInt.toNat < 20 - (nI c).toInt.toNat by rw [nIt (by omega), nIt (by omega)]; omega)
      refine Prod.ext ?_ rfl
      dsimp only
      rw [Nat.add_assoc]; rfl
  have inner : ∀ t, t < A.1.length → ∀ a, lX9_sumOfRows_14 (nI t) R (nI a, nI 0) = some (nI (a + suUp (fun i => suUp (fun c => dgt c ((aK A t).getD i 0)) 3) (aK A t).length)) := fun t ht a => by
    have w4 := (hW.2.2.2.2 t ht).2.2.2.1
    have hRt := (hR.2.2.2 t ht).2.2
    unfold lX9_sumOfRows_14
    refine p_it (P := fun s => ∃ i, i ≤ (aK A t).length ∧ s = (nI (a + suUp (fun i => suUp (fun c => dgt c ((aK A t).getD i 0)) 3) i), nI i)) (μ := fun s => 20 - s.2.toInt.toNat) (fun s p => ?_) ⟨0, by omega, rfl⟩
    obtain ⟨i, hi, rfl⟩ := p
    dsimp only
    refine t_be (n_many (by omega) R) ?_
    rw [hRt.1]
    refine t_ite (fun d => ?_) (fun d => ?_)
    · have := (nI_leI (by omega) (by omega)).mp d
      have : i = (aK A t).length := by omega
      rw [this]
      exact t_ret rfl
    · have := mt (nI_leI (a := (aK A t).length) (b := i) (by omega) (by omega)).mpr d
      refine t_be (cols t ht i (by omega) _) ?_
      rw [nI_1]
      refine t_nx ⟨i + 1, by omega, ?_⟩ (show 20 - (nI (i + 1)).toInt.toNat < 20 - (nI i).toInt.toNat by rw [nIt (by omega), nIt (by omega)]; omega)
      refine Prod.ext ?_ rfl
      dsimp only
      rw [Nat.add_assoc]; rfl
  have key : lX9_sumOfRows_4 R (nI 0, nI 0) = some (nI (suUp (fun t => suUp (fun i => suUp (fun c => dgt c ((aK A t).getD i 0)) 3) (aK A t).length) A.1.length)) := by
    unfold lX9_sumOfRows_4
    refine p_it (P := fun s => ∃ t, t ≤ A.1.length ∧ s = (nI (suUp (fun t => suUp (fun i => suUp (fun c => dgt c ((aK A t).getD i 0)) 3) (aK A t).length) t), nI t)) (μ := fun s => 20 - s.2.toInt.toNat) (fun s p => ?_) ⟨0, by omega, rfl⟩
    obtain ⟨t, hc, rfl⟩ := p
    dsimp only
    refine t_ite (fun d => ?_) (fun d => ?_)
    · rw [hR.1] at d
      have d := (nI_leI (by omega) (by omega)).mp d
      have : t = A.1.length := by omega
      rw [this]
      exact t_ret rfl
    · rw [hR.1] at d
      have d := mt (nI_leI (a := A.1.length) (b := t) (by omega) (by omega)).mpr d
      refine t_be (inner t (by omega) _) ?_
      rw [nI_1]
      exact t_nx ⟨t + 1, by omega, rfl⟩ (show 20 - (nI (t + 1)).toInt.toNat < 20 - (nI t).toInt.toNat by rw [nIt (by omega), nIt (by omega)]; omega)
  unfold fX9_sumOfRows
  rw [show ((0 : Int32), (0 : Int32)) = (nI 0, nI 0) from rfl, key, obs]
/-- the table with most rows -/
theorem two_mostRows {M R : gM} {A : aT} (hW : WF A) (h0 : 0 < A.1.length) (hC : CT M 3 A) (hR : RT R (R 70) A) {r : Int32} (e : fX8_tableWithMostRows M = some r) : fX9_greatestTable 0 R = some r := by
  have hn4 := hW.1
  unfold fX8_tableWithMostRows at e
  obtain ⟨w, ew, e⟩ := ob e
  obtain rfl := Option.some.inj e
  unfold lX8_tableWithMostRows_4 at ew
  unfold fX9_greatestTable lX9_greatestTable_4
  obtain ⟨w', ew', q⟩ := it_two (g := fun s : Int32 × Int32 => if (R 62 17) ≤ s.2 then some (.inr s.1) else if (0 : Int32) = 0 then (fX9_many s.2 R).bind fun r1 => (fX9_many s.1 R).bind fun r2 => if r1 ≤ r2 then bX9_greatestTable_61 s.1 s.2 (0 : Int32) else bX9_greatestTable_61 s.1 s.2 (1 : Int32) else (fX9_givenBy s.2 R).bind fun r3 => (fX9_bits r3).bind fun r4 => (fX9_givenBy s.1 R).bind fun r5 => (fX9_bits r5).bind fun r6 => if r4 ≤ r6 then bX9_greatestTable_61 s.1 s.2 (0 : Int32) else bX9_greatestTable_61 s.1 s.2 (1 : Int32)) (fun s t : Int32 × Int32 => s = t ∧ ∃ u t, u < A.1.length ∧ t ≤ A.1.length ∧ s = (nI u, nI t)) (fun a b : Int32 => a = b) (fun s t hst y hy => by
    obtain ⟨rfl, u, t, hu, ht, rfl⟩ := hst
    dsimp only at hy ⊢
    have wu := (hW.2.2.2.2 u hu).2.2.2.1
    have cu := (hC.2.2.2 u hu).2.2.1
    have ru := (hR.2.2.2 u hu).2.2.1
    rcases oi hy with ⟨c, hy⟩ | ⟨c, hy⟩
    · rw [hC.1] at c
      rw [hR.1, if_pos c]
      obtain rfl := Option.some.inj hy
      exact ⟨_, rfl, Or.inr ⟨_, _, rfl, rfl, rfl⟩⟩
    · rw [hC.1] at c
      have c' := mt (nI_leI (a := A.1.length) (b := t) (by omega) (by omega)).mpr c
      have ct := (hC.2.2.2 t (by omega)).2.2.1
      have rt := (hR.2.2.2 t (by omega)).2.2.1
      rw [hR.1, if_neg c, if_pos rfl, n_many (by omega), obs, n_many (by omega), obs, rt, ru]
      rw [rI_n (by omega) (by omega), obs, rI_n (by omega) (by omega), obs, show M 5 t = M (3 + 2) t from rfl, ct, show M 5 u = M (3 + 2) u from rfl, cu] at hy
      unfold bX8_tableWithMostRows_38 at hy
      unfold bX9_greatestTable_61 bX9_greatestTable_73
      rcases oi hy with ⟨d, hy⟩ | ⟨d, hy⟩
      · rw [if_pos d, if_pos rfl]
        obtain rfl := Option.some.inj hy
        exact ⟨_, rfl, Or.inl ⟨_, _, rfl, rfl, rfl, u, t + 1, hu, by omega, by rw [nI_1]⟩⟩
      · rw [if_neg d, if_neg (by decide)]
        obtain rfl := Option.some.inj hy
        exact ⟨_, rfl, Or.inl ⟨_, _, rfl, rfl, rfl, t, t + 1, by omega, by omega, by rw [nI_1]⟩⟩) (s := (0, 1)) (t := (0, 1)) ⟨rfl, 0, 1, h0, h0, rfl⟩ ew
  subst q
  rw [ew', obs]
/-- the table with most rows given -/
theorem two_mostGiven {M R : gM} {A : aT} (hW : WF A) (h0 : 0 < A.1.length) (hC : CT M 3 A) (hR : RT R (R 70) A) (hG : ∀ t, t < A.1.length → ∃ B, B < 4096 ∧ fX0_givenBits 18 3 (nI t) M = some (nI B) ∧ fX9_givenBy (nI t) R = some (nI B)) {r : Int32} (e : fX8_tableWithMostGiven M = some r) : fX9_greatestTable 1 R = some r := by
  have hn4 := hW.1
  unfold fX8_tableWithMostGiven at e
  obtain ⟨B0, b0, g0, g0'⟩ := hG 0 h0
  rw [show (0 : Int32) = nI 0 from rfl, c_givenRows g0 b0, obs] at e
  obtain ⟨w, ew, e⟩ := ob e
  obtain rfl := Option.some.inj e
  unfold lX8_tableWithMostGiven_10 at ew
  unfold fX9_greatestTable lX9_greatestTable_4
  obtain ⟨w', ew', q⟩ := it_two (g := fun s : Int32 × Int32 => if (R 62 17) ≤ s.2 then some (.inr s.1) else if (1 : Int32) = 0 then (fX9_many s.2 R).bind fun r1 => (fX9_many s.1 R).bind fun r2 => if r1 ≤ r2 then bX9_greatestTable_61 s.1 s.2 (0 : Int32) else bX9_greatestTable_61 s.1 s.2 (1 : Int32) else (fX9_givenBy s.2 R).bind fun r3 => (fX9_bits r3).bind fun r4 => (fX9_givenBy s.1 R).bind fun r5 => (fX9_bits r5).bind fun r6 => if r4 ≤ r6 then bX9_greatestTable_61 s.1 s.2 (0 : Int32) else bX9_greatestTable_61 s.1 s.2 (1 : Int32)) (fun (s : Int32 × Int32 × Int32) (t' : Int32 × Int32) => ∃ u t B, u < A.1.length ∧ t ≤ A.1.length ∧ B < 4096 ∧ fX9_givenBy (nI u) R = some (nI B) ∧ s = (nI u, nI (pc12 B), nI t) ∧ t' = (nI u, nI t)) (fun a b : Int32 => a = b) (fun s t' hst y hy => by
    obtain ⟨u, t, B, hu, ht, hB, gu, rfl, rfl⟩ := hst
    dsimp only at hy ⊢
    rcases oi hy with ⟨c, hy⟩ | ⟨c, hy⟩
    · rw [hC.1] at c
      rw [hR.1, if_pos c]
      obtain rfl := Option.some.inj hy
      exact ⟨_, rfl, Or.inr ⟨_, _, rfl, rfl, rfl⟩⟩
    · rw [hC.1] at c
      have c' := mt (nI_leI (a := A.1.length) (b := t) (by omega) (by omega)).mpr c
      obtain ⟨B', hB', gt, gt'⟩ := hG t (by omega)
      rw [hR.1, if_neg c, if_neg (by decide), gt', obs, n_bits hB', obs, gu, obs, n_bits hB, obs]
      rw [c_givenRows gt hB', obs] at hy
      unfold bX8_tableWithMostGiven_39 at hy
      unfold bX9_greatestTable_61 bX9_greatestTable_73
      rcases oi hy with ⟨d, hy⟩ | ⟨d, hy⟩
      · rw [if_pos d, if_pos rfl]
        obtain rfl := Option.some.inj hy
        exact ⟨_, rfl, Or.inl ⟨_, _, rfl, rfl, u, t + 1, B, hu, by omega, hB, gu, by rw [nI_1], by rw [nI_1]⟩⟩
      · rw [if_neg d, if_neg (by decide)]
        obtain rfl := Option.some.inj hy
        exact ⟨_, rfl, Or.inl ⟨_, _, rfl, rfl, t, t + 1, B', by omega, by omega, hB', gt', by rw [nI_1], by rw [nI_1]⟩⟩) (s := (nI 0, nI (pc12 B0), 1)) (t := (0, 1)) ⟨0, 1, B0, h0, h0, b0, g0', rfl, rfl⟩ ew
  subst q
  rw [ew', obs]
/-- rows that dangle -/
theorem two_dangling {M R : gM} {A : aT} (hW : WF A) (hC : CT M 3 A) (hR : RT R (R 70) A) (hG : ∀ t, t < A.1.length → ∃ B, B < 4096 ∧ fX0_givenBits 18 3 (nI t) M = some (nI B) ∧ fX9_givenBy (nI t) R = some (nI B)) {r : Int32} (e : fX8_dangling M = some r) : fX9_notGiven R = some r := by
  have hn4 := hW.1
  unfold fX8_dangling at e
  obtain ⟨w, ew, e⟩ := ob e
  obtain rfl := Option.some.inj e
  unfold lX8_dangling_4 at ew
  unfold fX9_notGiven lX9_notGiven_4
  obtain ⟨w', ew', q⟩ := it_two (g := fun s : Int32 × Int32 => if (R 62 17) ≤ s.2 then some (.inr s.1) else (fX9_isUsed s.2 R).bind fun r1 => if r1 = 0 then bX9_notGiven_39 s.2 (0 : Int32) s.1 else (fX9_many s.2 R).bind fun r2 => (fX9_givenBy s.2 R).bind fun r3 => (fX9_bits r3).bind fun r4 => bX9_notGiven_39 s.2 (r2 - r4) s.1) (fun s t' : Int32 × Int32 => s = t' ∧ ∃ t, t ≤ A.1.length ∧ s.2 = nI t) (fun a b : Int32 => a = b) (fun s t' hst y hy => by
    obtain ⟨s1, s2⟩ := s
    obtain ⟨rfl, t, ht, e⟩ := hst
    dsimp only at e
    subst e
    dsimp only at hy ⊢
    rcases oi hy with ⟨c, hy⟩ | ⟨c, hy⟩
    · rw [hC.1] at c
      rw [hR.1, if_pos c]
      obtain rfl := Option.some.inj hy
      exact ⟨_, rfl, Or.inr ⟨_, _, rfl, rfl, rfl⟩⟩
    · rw [hC.1] at c
      have c' := mt (nI_leI (a := A.1.length) (b := t) (by omega) (by omega)).mpr c
      obtain ⟨B', hB', gt, gt'⟩ := hG t (by omega)
      have ct := (hC.2.2.2 t (by omega)).2.2.1
      have rt := (hR.2.2.2 t (by omega)).2.2.1
      have w4 := (hW.2.2.2.2 t (by omega)).2.2.2.1
      rw [hR.1, if_neg c, n_usedK hW hR (by omega), obs]
      rw [c_isUsed hW hC (by omega), obs] at hy
      unfold bX8_dangling_44 at hy
      unfold bX9_notGiven_39
      by_cases u : A.2.1.testBit t = true
      · rw [if_pos u, if_neg n10] at hy ⊢
        rw [rI_n (by omega) (by omega), obs, c_givenRows gt hB', obs, show M 5 t = M (3 + 2) t from rfl, ct] at hy
        rw [n_many (by omega), obs, gt', obs, n_bits hB', obs, rt]
        obtain rfl := Option.some.inj hy
        exact ⟨_, rfl, Or.inl ⟨_, _, rfl, rfl, rfl, t + 1, by omega, nI_1 _⟩⟩
      · rw [if_neg u, if_pos rfl] at hy ⊢
        obtain rfl := Option.some.inj hy
        exact ⟨_, rfl, Or.inl ⟨_, _, rfl, rfl, by rw [Int32.add_zero], t + 1, by omega, nI_1 _⟩⟩) (s := (0, 0)) (t := (0, 0)) ⟨rfl, 0, Nat.zero_le _, rfl⟩ ew
  subst q
  rw [ew', obs]
end P_35r_43k_most
section P_35r_43l_most
/-! most: couples of letters that tell, and all answers -/
theorem OUT.keep {k : Nat} {ls : List Nat} {M R N K : gM} {J : Nat} (o : OUT k ls M R J) (h : ∀ q, q < 42 → N q = M q) (hk : k + 3 < 42) (g : ∀ q, q ≠ 86 → K q = R q) : OUT k ls N K J :=
  ⟨by rw [h k (by omega)]; exact o.1, by rw [g 62 (by omega)]; exact o.2.1, by rw [h k (by omega), g 62 (by omega)]; exact o.2.2.1, fun e he => by rw [h (k + 1) (by omega), g 79 (by omega)]; exact o.2.2.2.1 e he, fun j hj => by
    rw [h (k + 3) (by omega), g 80 (by omega)]; exact o.2.2.2.2 j hj⟩
theorem told_two {R0 M R N K : gM} {A : aT} {J l x : Nat} (hW : WF A) (M1 : MI false R0 R) (G1 : GJ9 R) (A1 : A9 R) (R1 : RT R (R 70) A) (o : OUT 18 (fl4 A.2.2 (asA A)) M R J) (hJ : J ≤ 20736) (hN : ∀ q, q ≠ 42 → N q = M q) (hK : ∀ q, q ≠ 86 → K q = R q) (MK : MI false R0 K) (hl : l < 4) (hx : x < 4) (hb : (asA A).testBit l = true) (hb' : (asA A).testBit x = true) : ∃ b N' K', (b = 0 ∨ b = 1) ∧ fX0_isTold 18 (nI l) (nI x) N = some (b, N') ∧ fX9_isTold (nI l) (nI x) K = some (b, K') ∧ (∀ q, q ≠ 42 → N' q = M q) ∧ ∀ q, q ≠ 86 → K' q = R q := by
  have dn : ∀ j y, rdg N 18 j y = rdg M 18 j y := fun j y => by unfold rdg; rw [hN (18 + 3) (by omega)]
  have ok := o.keep (fun q hq => hN q (by omega)) (by omega) hK
  obtain ⟨p, ep, q1, f1⟩ := c_told ok hJ (by omega) hl hx (fun j hj => by rw [dn]; exact (d99 M1 G1 A1 hW R1 o hJ hl hb hj).2)
  obtain ⟨p', ep', q2, f2⟩ := n_told (f := fun j => rdg N 18 j l) (g := fun j => rdg N 18 j x) MK hJ ok.2.1 hl hx (fun j hj => by rw [dn, hK 80 (by omega)]; exact d99 M1 G1 A1 hW R1 o hJ hl hb hj) (fun j hj => by rw [dn, hK 80 (by omega)]; exact (d99 M1 G1 A1 hW R1 o hJ hx hb' hj).1) (fun j => by have := rdg_lt N 18 j x; omega)
  obtain ⟨b, N'⟩ := p
  obtain ⟨b', K'⟩ := p'
  dsimp only at q1 q2 f1 f2
  have eb : b = b' := by
    rcases q1 with ⟨r1, t1⟩ | ⟨r1, t1⟩
    · rcases q2 with ⟨r2, t2⟩ | ⟨r2, t2⟩
      · rw [r1, r2]
      · exact absurd t1 t2
    · rcases q2 with ⟨r2, t2⟩ | ⟨r2, t2⟩
      · exact absurd t2 t1
      · rw [r1, r2]
  subst eb
  refine ⟨b, N', K', ?_, ep, ep', fun q hq => (f1 q hq).trans (hN q hq), fun q hq => (f2 q hq).trans (hK q hq)⟩
  rcases q1 with ⟨r1, _⟩ | ⟨r1, _⟩
  · exact Or.inr r1
  · exact Or.inl r1
theorem MI.of86 {R0 R K : gM} (h : MI false R0 R) (hK : ∀ q, q ≠ 86 → K q = R q) : MI false R0 K := by
  refine ⟨fun q j => ?_, fun q hq => ?_⟩
  · by_cases c : q = 86
    · subst c; exact tTop _
    · rw [hK q c]; exact h.1 q j
  · by_cases c : q = 86
    · subst c; exact absurd hq (by decide)
    · rw [hK q c]; exact h.2 q hq
theorem two_couples {R0 M R : gM} {A : aT} {J : Nat} (hW : WF A) (hC : CT M 3 A) (M1 : MI false R0 R) (G1 : GJ9 R) (A1 : A9 R) (R1 : RT R (R 70) A) (o : OUT 18 (fl4 A.2.2 (asA A)) M R J) (hJ : J ≤ 20736) {r : Int32 × gM} (e : fX8_tellingCouples M = some r) : ∃ K, fX9_couples R = some (r.1, K) := by
  unfold fX8_tellingCouples at e
  obtain ⟨w, ew, e⟩ := ob e
  obtain rfl := Option.some.inj e
  have CN : ∀ {N : gM}, (∀ q, q ≠ 42 → N q = M q) → CT N 3 A := fun h => hC.cong (fun j _ => by rw [h 3 (by omega)]) (h _ (by omega)) (h _ (by omega)) (h _ (by omega)) (h _ (by omega))
  have RK : ∀ {K : gM}, (∀ q, q ≠ 86 → K q = R q) → RT K (K 70) A := fun {K} h => by
    rw [h 70 (by omega)]
    exact R1.cong (by rw [h 62 (by omega)]) (h 72 (by omega)) (h 73 (by omega)) hW.1 hW.k12 (fun _ _ => rfl)
  have inner : ∀ (l : Nat), l < 4 → ∀ (a : Int32) (N K : gM), (∀ q, q ≠ 42 → N q = M q) → (∀ q, q ≠ 86 → K q = R q) → ∀ {w : Int32 × gM}, lX8_tellingCouples_11 (nI l) (a, 0, N) = some w → ∃ K', lX9_couples_11 (nI l) (a, 0, K) = some (w.1, K') ∧ (∀ q, q ≠ 42 → w.2 q = M q) ∧ ∀ q, q ≠ 86 → K' q = R q := by
    intro l hl a N K hN hK w ew
    unfold lX8_tellingCouples_11 at ew
    unfold lX9_couples_11
    obtain ⟨w', ew', q⟩ := it_two (g := fun s : Int32 × Int32 × gM => if (4 : Int32) ≤ s.2.1 then some (.inr (s.1, s.2.2)) else if nI l = s.2.1 then bX9_couples_51 s.2.1 s.1 s.2.2 else (fX9_isAsked (nI l) s.2.2).bind fun r1 => if r1 = 0 then bX9_couples_51 s.2.1 s.1 s.2.2 else (fX9_isAsked s.2.1 s.2.2).bind fun r2 => if r2 = 0 then bX9_couples_51 s.2.1 s.1 s.2.2 else (fX9_isTold (nI l) s.2.1 s.2.2).bind fun r3 => if r3.1 = 0 then bX9_couples_51 s.2.1 s.1 r3.2 else bX9_couples_52 s.2.1 (1 : Int32) s.1 r3.2) (fun s t : Int32 × Int32 × gM => s.1 = t.1 ∧ s.2.1 = t.2.1 ∧ (∃ x, x ≤ 4 ∧ s.2.1 = nI x) ∧ (∀ q, q ≠ 42 → s.2.2 q = M q) ∧ ∀ q, q ≠ 86 → t.2.2 q = R q) (fun a b : Int32 × gM => a.1 = b.1 ∧ (∀ q, q ≠ 42 → a.2 q = M q) ∧ ∀ q, q ≠ 86 → b.2 q = R q) (fun s t hst y hy => by
      obtain ⟨s1, s2, N'⟩ := s
      obtain ⟨t1, t2, K'⟩ := t
      obtain ⟨e1, e2, ⟨x, hx, e3⟩, hN', hK'⟩ := hst
      dsimp only at e1 e2 e3 hN' hK'
      subst e1; subst e2; subst e3
      dsimp only at hy ⊢
      rcases oi hy with ⟨c, hy⟩ | ⟨c, hy⟩
      · rw [if_pos c]
        obtain rfl := Option.some.inj hy
        exact ⟨_, rfl, Or.inr ⟨_, _, rfl, rfl, rfl, hN', hK'⟩⟩
      · have c' := mt (nI_leI (a := 4) (b := x) (by omega) (by omega)).mpr c
        rw [if_neg c]
        unfold bX9_couples_51 bX9_couples_52
        unfold bX8_tellingCouples_33 at hy
        have skip : ∀ {N2 K2 : gM} {y : (Int32 × Int32 × gM) ⊕ (Int32 × gM)}, (∀ q, q ≠ 42 → N2 q = M q) → (∀ q, q ≠ 86 → K2 q = R q) → some (Sum.inl (s1, nI x + 1, N2)) = some y → ∃ z, (some (Sum.inl (s1 + 0, nI x + 1, K2)) : Option ((Int32 × Int32 × gM) ⊕ (Int32 × gM))) = some z ∧ ((∃ s' t' : Int32 × Int32 × gM, y = .inl s' ∧ z = .inl t' ∧ s'.1 = t'.1 ∧ s'.2.1 = t'.2.1 ∧ (∃ x, x ≤ 4 ∧ s'.2.1 = nI x) ∧ (∀ q, q ≠ 42 → s'.2.2 q = M q) ∧ ∀ q, q ≠ 86 → t'.2.2 q = R q) ∨ ∃ r r' : Int32 × gM, y = .inr r ∧ z = .inr r' ∧ r.1 = r'.1 ∧ (∀ q, q ≠ 42 → r.2 q = M q) ∧ ∀ q, q ≠ 86 → r'.2 q = R q) := fun h1 h2 hy => by
          obtain rfl := Option.some.inj hy
          exact ⟨_, rfl, Or.inl ⟨_, _, rfl, rfl, (Int32.add_zero s1).symm, rfl, ⟨x + 1, by omega, nI_1 _⟩, h1, h2⟩⟩
        rcases oi hy with ⟨d, hy⟩ | ⟨d, hy⟩
        · rw [if_pos d]
          exact skip hN' hK' hy
        · rw [if_neg d]
          obtain ⟨p, ep, hy⟩ := ob hy
          unfold fX8_tells at ep
          rcases two_asked hW (CN hN') (M1.of86 hK') (RK hK') (nI l) with ⟨l', hl', el, hb, n, z1, z2⟩ | ⟨z1, z2⟩
          · have el := nI_inj el (by omega) (by omega)
            subst el
            rw [z1, obs, if_neg (by decide)] at ep
            rw [z2, obs, if_neg (by decide)]
            rcases two_asked hW (CN hN') (M1.of86 hK') (RK hK') (nI x) with ⟨x', hx', ex, hb', _, y1, y2⟩ | ⟨y1, y2⟩
            · have ex := nI_inj ex (by omega) (by omega)
              subst ex
              rw [y1, obs, if_neg (by decide)] at ep
              rw [y2, obs, if_neg (by decide)]
              obtain ⟨b, N2, K2, b01, g1, g2, g3, g4⟩ := told_two hW M1 G1 A1 R1 o hJ hN' hK' (M1.of86 hK') hl hx' hb hb'
              rw [g1, obs] at ep
              rw [g2, obs]
              rcases b01 with rfl | rfl
              · rw [if_pos rfl] at ep ⊢
                obtain rfl := Option.some.inj ep
                rw [if_pos rfl] at hy
                exact skip g3 g4 hy
              · rw [if_neg (show ¬ (1 : Int32) = 0 by decide)] at ep ⊢
                obtain rfl := Option.some.inj ep
                rw [if_neg (show ¬ (1 : Int32) = 0 by decide)] at hy
                obtain rfl := Option.some.inj hy
                exact ⟨_, rfl, Or.inl ⟨_, _, rfl, rfl, rfl, rfl, ⟨x + 1, by omega, nI_1 _⟩, g3, g4⟩⟩
            · rw [y1, obs, if_pos rfl] at ep
              rw [y2, obs, if_pos rfl]
              obtain rfl := Option.some.inj ep
              rw [if_pos rfl] at hy
              exact skip hN' hK' hy
          · rw [z1, obs, if_pos rfl] at ep
            rw [z2, obs, if_pos rfl]
            obtain rfl := Option.some.inj ep
            rw [if_pos rfl] at hy
            exact skip hN' hK' hy) (s := (a, 0, N)) (t := (a, 0, K)) ⟨rfl, rfl, ⟨0, by omega, rfl⟩, hN, hK⟩ ew
    obtain ⟨q1, q2, q3⟩ := q
    refine ⟨w'.2, ?_, q2, q3⟩
    rw [ew', q1]
  unfold lX8_tellingCouples_4 at ew
  unfold fX9_couples lX9_couples_4
  obtain ⟨w', ew', q⟩ := it_two (g := fun s : Int32 × Int32 × gM => if (4 : Int32) ≤ s.2.1 then some (.inr (s.1, s.2.2)) else (lX9_couples_11 s.2.1 (s.1, (0 : Int32), s.2.2)).bind fun w4 => some (.inl (w4.1, s.2.1 + 1, w4.2))) (fun s t : Int32 × Int32 × gM => s.1 = t.1 ∧ s.2.1 = t.2.1 ∧ (∃ x, x ≤ 4 ∧ s.2.1 = nI x) ∧ (∀ q, q ≠ 42 → s.2.2 q = M q) ∧ ∀ q, q ≠ 86 → t.2.2 q = R q) (fun a b : Int32 × gM => a.1 = b.1) (fun s t hst y hy => by
    obtain ⟨s1, s2, N'⟩ := s
    obtain ⟨t1, t2, K'⟩ := t
    obtain ⟨e1, e2, ⟨x, hx, e3⟩, hN', hK'⟩ := hst
    dsimp only at e1 e2 e3 hN' hK'
    subst e1; subst e2; subst e3
    dsimp only at hy ⊢
    rcases oi hy with ⟨c, hy⟩ | ⟨c, hy⟩
    · rw [if_pos c]
      obtain rfl := Option.some.inj hy
      exact ⟨_, rfl, Or.inr ⟨_, _, rfl, rfl, rfl⟩⟩
    · have c' := mt (nI_leI (a := 4) (b := x) (by omega) (by omega)).mpr c
      rw [if_neg c]
      obtain ⟨p, ep, hy⟩ := ob hy
      obtain ⟨K2, g1, g2, g3⟩ := inner x (by omega) s1 N' K' hN' hK' ep
      rw [g1, obs]
      obtain rfl := Option.some.inj hy
      exact ⟨_, rfl, Or.inl ⟨_, _, rfl, rfl, rfl, rfl, ⟨x + 1, by omega, nI_1 _⟩, g2, g3⟩⟩) (s := (0, 0, M)) (t := (0, 0, R)) ⟨rfl, rfl, ⟨0, by omega, rfl⟩, fun _ _ => rfl, fun _ _ => rfl⟩ ew
  refine ⟨w'.2, ?_⟩
  rw [ew', obs, q]
theorem eq_most {I : gM} (h : InvB I) {v : Int32} {a b : Int32 × gM} (e1 : fX8_most v I = some a) (e2 : fX9_most v a.2 = some b) : a.1 = b.1 := by
  obtain ⟨A, hW, hC, hR⟩ := h.tab
  have hMa : MI true I a.2 := by
    obtain ⟨p, ep, hp⟩ := tfX8_most v I h.1.1
    rw [e1] at ep
    obtain rfl := Option.some.inj ep
    exact hp
  have hRa := hR.hi hMa hW
  unfold fX8_most at e1
  unfold fX9_most at e2
  rw [n_areTables hW.1 hRa.1, obs] at e2
  by_cases n : A.1.length = 0
  · rw [if_pos ((hC.n0 hW).mpr n)] at e1
    rw [if_pos n, if_pos rfl] at e2
    cases e1; cases e2; rfl
  · rw [if_neg (mt (hC.n0 hW).mp n)] at e1
    rw [if_neg n, if_neg (by decide)] at e2
    have t6 : (6 : Int32).toInt = 6 := by decide
    have hin := n_in v 0 6
    rw [t0i, t6] at hin
    rcases hin with ⟨z1, z2, z⟩ | ⟨zn, z⟩
    · rw [z, obs, if_neg (by decide)] at e2
      obtain ⟨x, rfl, hx⟩ : ∃ x, v = nI x ∧ x ≤ 6 := ⟨_, nI_self z1, by omega⟩
      obtain ⟨R', J, ej, o, hJ, hS, hQ, hll, M1, G1, fR, fj⟩ := cur_two h hW (by omega) hC hMa.re hRa
      obtain ⟨A1, R1⟩ := cur_more (I := I) (R0 := I) hW (A9.hi hMa h.1.2.1) hRa fR fj
      rw [ej, obs] at e2
      have hG : ∀ t, t < A.1.length → ∃ B, B < 4096 ∧ fX0_givenBits 18 3 (nI t) I = some (nI B) ∧ fX9_givenBy (nI t) R' = some (nI B) := fun t ht => by
        obtain ⟨B, g1, g2, g3⟩ := two_given hW hC M1 G1 A1 R1 o hJ ht
        have := Nat.pow_le_pow_right (n := 2) (by decide) (hW.2.2.2.2 t ht).2.2.2.1
        exact ⟨B, by omega, g1, g2⟩
      rcases (by omega : x = 0 ∨ x = 1 ∨ x = 2 ∨ x = 3 ∨ x = 4 ∨ x = 5 ∨ x = 6) with rfl | rfl | rfl | rfl | rfl | rfl | rfl
      · rw [if_pos (by decide), c_allN hW hC, obs] at e1
        rw [if_pos (by decide), n_sumR hW R1, obs] at e2
        cases e1; cases e2; rfl
      · rw [if_neg (by decide), if_pos (by decide)] at e1
        obtain ⟨r, er, e1⟩ := ob e1
        rw [if_neg (by decide), if_pos (by decide), if_neg (by decide)] at e2
        unfold bX9_most_80 at e2
        rw [two_mostRows hW (by omega) hC R1 er, obs] at e2
        cases e1; cases e2; rfl
      · rw [if_neg (by decide), if_neg (by decide), if_pos (by decide)] at e1
        obtain ⟨r, er, e1⟩ := ob e1
        rw [if_neg (by decide), if_neg (by decide), if_pos (by decide), if_pos (by decide)] at e2
        unfold bX9_most_80 at e2
        rw [two_mostGiven hW (by omega) hC R1 hG er, obs] at e2
        cases e1; cases e2; rfl
      · rw [if_neg (by decide), if_neg (by decide), if_neg (by decide), if_pos (by decide)] at e1
        obtain ⟨r, er, e1⟩ := ob e1
        rw [if_neg (by decide), if_neg (by decide), if_neg (by decide), if_pos (by decide), two_dangling hW hC R1 hG er, obs] at e2
        cases e1; cases e2; rfl
      · rw [if_neg (by decide), if_neg (by decide), if_neg (by decide), if_neg (by decide), if_pos (by decide)] at e1
        obtain ⟨r, er, e1⟩ := ob e1
        obtain ⟨K, eK⟩ := two_couples hW hC M1 G1 A1 R1 o hJ er
        rw [if_neg (by decide), if_neg (by decide), if_neg (by decide), if_neg (by decide), if_pos (by decide), eK, obs] at e2
        cases e1; cases e2; rfl
      · rw [if_neg (by decide), if_neg (by decide), if_neg (by decide), if_neg (by decide), if_neg (by decide), if_pos (by decide)] at e1
        obtain ⟨r, er, e1⟩ := ob e1
        rw [if_neg (by decide), if_neg (by decide), if_neg (by decide), if_neg (by decide), if_neg (by decide), if_pos (by decide)] at e2
        obtain ⟨M', R2, J', f1, f2, o', _⟩ := find_two (I0 := I) (k := 29) (k1 := 3) (o := 0) (by omega) M1 hW (by omega) hC R1 h.2.1.2.1 (by omega)
        have f1 : fX1_findBy 29 3 (0 : Int32) I = some M' := f1
        have f2 : fX9_joins (0 : Int32) R' = some R2 := f2
        rw [er] at f1
        obtain rfl := Option.some.inj f1
        rw [f2, obs] at e2
        cases e1; cases e2
        exact o'.2.2.1
      · rw [if_neg (by decide), if_neg (by decide), if_neg (by decide), if_neg (by decide), if_neg (by decide), if_neg (by decide), if_pos (by decide)] at e1
        obtain ⟨r, er, e1⟩ := ob e1
        rw [if_neg (by decide), if_neg (by decide), if_neg (by decide), if_neg (by decide), if_neg (by decide), if_neg (by decide)] at e2
        obtain ⟨R2, f1, _, _, f2⟩ := weigh_two h.2.1 hW (by omega) hC M1 R1 er
        rw [f1, obs] at e2
        cases e1; cases e2
        exact f2
    · rw [z, obs, if_pos rfl] at e2
      have ne : ∀ x : Nat, x ≤ 6 → ∀ w : Int32, w = nI x → ¬ v = w := fun x hx w hw q => zn (by rw [q, hw, tnI (by omega)]; omega)
      rw [if_neg (ne 0 (by omega) (0 : Int32) rfl), if_neg (ne 1 (by omega) (1 : Int32) rfl), if_neg (ne 2 (by omega) (2 : Int32) rfl), if_neg (ne 3 (by omega) (3 : Int32) rfl), if_neg (ne 4 (by omega) (4 : Int32) rfl), if_neg (ne 5 (by omega) (5 : Int32) rfl), if_neg (ne 6 (by omega) (6 : Int32) rfl)] at e1
      cases e1; cases e2; rfl
end P_35r_43l_most
section P_35r_43m_float
/-! doubles and floats: what is exact, what is normal -/
def fmOK (f : FP.Core.Fmt) : Prop := f = FP.Core.b64 ∨ f = FP.Core.b32
theorem fm_p {f : FP.Core.Fmt} (h : fmOK f) : f.tails = 2 ^ (f.p - 1) ∧ 2 ^ f.p = 2 * f.tails ∧ 1 ≤ f.p ∧ f.qmin ≤ -149 ∧ 104 ≤ f.qmax ∧ f.p ≤ 53 := by
  rcases h with rfl | rfl <;> decide
def CN (f : FP.Core.Fmt) (c : Nat) (q : Int) : Prop := f.tails ≤ c ∧ c < 2 * f.tails ∧ f.qmin ≤ q ∧ q ≤ f.qmax
theorem lg2 {n k : Nat} (h1 : 2 ^ k ≤ n) (h2 : n < 2 ^ (k + 1)) : n.log2 = k := by
  have n0 : n ≠ 0 := by have := Nat.two_pow_pos k; omega
  have a := (Nat.le_log2 n0).mpr h1
  have b := (Nat.log2_lt n0).mpr h2
  omega
theorem lead1 {n : Nat} (h : n ≠ 0) : FP.Core.leading n 1 = (n.log2 : Int) := by
  unfold FP.Core.leading
  dsimp only
  have l1 : Nat.log2 1 = 0 := by decide
  have h1 := Nat.log2_self_le h
  rw [l1, if_pos]
  · omega
  · rw [show ((n.log2 : Int) - ((0 : Nat) : Int)).toNat = n.log2 by omega, show (-((n.log2 : Int) - ((0 : Nat) : Int))).toNat = 0 by omega]
    omega
theorem near_ge {num den A : Nat} (hd : 0 < den) (h : A * den ≤ num) : A ≤ FP.Core.nearest num den := by
  have := (Nat.le_div_iff_mul_le hd).mpr h
  unfold FP.Core.nearest
  split
  · exact this
  · split <;> omega
theorem near_le {num den K : Nat} (hd : 0 < den) (h : num ≤ K * den) : FP.Core.nearest num den ≤ K := by
  have dm := Nat.div_add_mod num den
  have md := Nat.mod_lt num hd
  have k1 : num / den ≤ K := by
    have := Nat.div_le_div_right (c := den) h
    rwa [Nat.mul_div_cancel _ hd] at this
  rcases Nat.lt_or_ge (num / den) K with c | c
  · unfold FP.Core.nearest
    split
    · omega
    · split <;> omega
  · have e : num / den = K := by omega
    rw [e] at dm
    have : num % den = 0 := by
      rw [Nat.mul_comm] at dm
      omega
    unfold FP.Core.nearest
    rw [this, if_pos (by omega)]
    omega
theorem near_eq {D m : Nat} (hd : 0 < D) : FP.Core.nearest (m * D) D = m := by
  have a := near_ge (num := m * D) (den := D) (A := m) hd (Nat.le_refl _)
  have b := near_le (num := m * D) (den := D) (K := m) hd (Nat.le_refl _)
  omega
/-- a magnitude rounded, its last digit at Q -/
theorem rr_at {f : FP.Core.Fmt} (hf : fmOK f) {s : Bool} {num den m : Nat} {e Q : Int} (hn : num ≠ 0) (hl : FP.Core.leading num den + e - ((f.p : Int) - 1) = Q) (hQ : f.qmin ≤ Q) (hq : Q < f.qmax) (hm : FP.Core.nearest (FP.Core.unitsNum num e Q) (FP.Core.unitsDen den e Q) = m) (h1 : f.tails ≤ m) (h2 : m ≤ 2 * f.tails) : ∃ c q, FP.Core.roundRatio f s num den e = .fin s c q ∧ CN f c q ∧ ((m < 2 * f.tails ∧ c = m ∧ q = Q) ∨ (m = 2 * f.tails ∧ c = f.tails ∧ q = Q + 1)) := by
  obtain ⟨p1, p2, p3, p4, p5, p6⟩ := fm_p hf
  have t0 : 0 < f.tails := by rw [p1]; exact Nat.two_pow_pos _
  have eq : FP.Core.quantum f num den e = Q := by
    unfold FP.Core.quantum
    omega
  unfold FP.Core.roundRatio
  rw [if_neg hn, eq]
  unfold FP.Core.roundAt FP.Core.settle
  rw [hm, p2]
  by_cases c : m < 2 * f.tails
  · rw [if_pos c]
    unfold FP.Core.bound
    rw [if_pos (by omega)]
    exact ⟨m, Q, rfl, ⟨h1, c, hQ, by omega⟩, Or.inl ⟨c, rfl, rfl⟩⟩
  · rw [if_neg c]
    unfold FP.Core.bound
    rw [if_pos (by omega)]
    exact ⟨f.tails, Q + 1, rfl, ⟨Nat.le_refl _, by omega, by omega, by omega⟩, Or.inr ⟨by omega, rfl, rfl⟩⟩
/-- a magnitude that is exact stays -/
theorem rr_exact {f : FP.Core.Fmt} (hf : fmOK f) {s : Bool} {n m : Nat} {e Q : Int} (hc : CN f m Q) (hq : Q < f.qmax) (h : (Q ≤ e ∧ n * 2 ^ (e - Q).toNat = m) ∨ (e ≤ Q ∧ n = m * 2 ^ (Q - e).toNat)) : FP.Core.roundRatio f s n 1 e = .fin s m Q := by
  obtain ⟨p1, p2, p3, p4, p5, p6⟩ := fm_p hf
  obtain ⟨c1, c2, c3, c4⟩ := hc
  have t0 : 0 < f.tails := by rw [p1]; exact Nat.two_pow_pos _
  have pw : ∀ j, 0 < 2 ^ j := Nat.two_pow_pos
  have ft : 2 * f.tails = 2 ^ (f.p - 1 + 1) := by rw [p1, Nat.pow_succ, Nat.mul_comm]
  have hn : n ≠ 0 := by
    rintro rfl
    rcases h with ⟨_, h⟩ | ⟨_, h⟩
    · rw [Nat.zero_mul] at h; omega
    · have := Nat.mul_pos (show 0 < m by omega) (pw (Q - e).toNat)
      omega
  have lg : (n.log2 : Int) + e = (f.p : Int) - 1 + Q := by
    rcases h with ⟨h1, h⟩ | ⟨h1, h⟩
    · have hj : (e - Q).toNat ≤ f.p - 1 := by
        rcases Nat.lt_or_ge (f.p - 1) (e - Q).toNat with z | z
        · have : 2 ^ (f.p - 1 + 1) ≤ 2 ^ (e - Q).toNat := Nat.pow_le_pow_right (by decide) z
          have : 1 * 2 ^ (e - Q).toNat ≤ n * 2 ^ (e - Q).toNat := Nat.mul_le_mul_right _ (by omega)
          omega
        · exact z
      have l : n.log2 = f.p - 1 - (e - Q).toNat := by
        refine lg2 ?_ ?_
        · refine Nat.le_of_mul_le_mul_right ?_ (pw (e - Q).toNat)
          rw [← Nat.pow_add, show f.p - 1 - (e - Q).toNat + (e - Q).toNat = f.p - 1 by omega, h, ← p1]
          exact c1
        · refine Nat.lt_of_mul_lt_mul_right (a := 2 ^ (e - Q).toNat) ?_
          rw [← Nat.pow_add, show f.p - 1 - (e - Q).toNat + 1 + (e - Q).toNat = f.p - 1 + 1 by omega, h, ← ft]
          exact c2
      rw [l]; omega
    · have l : n.log2 = f.p - 1 + (Q - e).toNat := by
        refine lg2 ?_ ?_
        · rw [Nat.pow_add, h, ← p1]
          exact Nat.mul_le_mul_right _ c1
        · rw [show f.p - 1 + (Q - e).toNat + 1 = f.p - 1 + 1 + (Q - e).toNat by omega, Nat.pow_add, h, ← ft]
          exact Nat.mul_lt_mul_of_pos_right c2 (pw _)
      rw [l]; omega
  have hm : FP.Core.nearest (FP.Core.unitsNum n e Q) (FP.Core.unitsDen 1 e Q) = m := by
    unfold FP.Core.unitsNum FP.Core.unitsDen
    rw [Nat.one_mul]
    rcases h with ⟨h1, h⟩ | ⟨h1, h⟩
    · rw [show (Q - e).toNat = 0 by omega, h]
      have := near_eq (D := 1) (m := m) (by omega)
      rwa [Nat.mul_one] at this
    · rw [show (e - Q).toNat = 0 by omega, h, Nat.pow_zero, Nat.mul_one]
      exact near_eq (pw _)
  obtain ⟨c, q, e1, _, r⟩ := rr_at hf (s := s) hn (by rw [lead1 hn]; omega) c3 hq hm c1 (by omega)
  rcases r with ⟨_, rfl, rfl⟩ | ⟨z, _⟩
  · exact e1
  · omega
/-- encoded and read again -/
theorem ed64 {c : Nat} {q : Int} (h : CN FP.Core.b64 c q) (s : Bool) : b64ok (FP.Core.encode FP.Core.b64 (.fin s c q)) ∧ FP.Core.decode FP.Core.b64 (FP.Core.encode FP.Core.b64 (.fin s c q)) = .fin s c q := by
  obtain ⟨h1, h2, h3, h4⟩ := h
  rw [b64_tails] at h1 h2
  rw [b64_qmin] at h3
  rw [b64_qmax] at h4
  unfold FP.Core.encode
  dsimp only
  rw [b64_tails, b64_qmin, if_neg (by omega)]
  obtain ⟨a1, a2, a3, a4, a5⟩ := b64_asm s (e := (q - (-1074)).toNat + 1) (t := c - 4503599627370496) (by omega) (by omega)
  refine ⟨⟨a4, by omega⟩, ?_⟩
  unfold FP.Core.decode
  rw [a1, a2, a3, b64_exps, b64_tails, b64_qmin, if_neg (by omega), if_neg (by omega), show 4503599627370496 + (c - 4503599627370496) = c by omega, show (-1074 : Int) + ((((q - (-1074)).toNat + 1 : Nat) : Int) - 1) = q by omega]
theorem ez64 (s : Bool) : b64ok (FP.Core.encode FP.Core.b64 (.fin s 0 (-1074))) ∧ FP.Core.decode FP.Core.b64 (FP.Core.encode FP.Core.b64 (.fin s 0 (-1074))) = .fin s 0 (-1074) := by
  cases s <;> exact ⟨⟨by decide +kernel, by decide +kernel⟩, by decide +kernel⟩
theorem ed32 {c : Nat} {q : Int} (h : CN FP.Core.b32 c q) (s : Bool) : b32ok (FP.Core.encode FP.Core.b32 (.fin s c q)) ∧ FP.Core.decode FP.Core.b32 (FP.Core.encode FP.Core.b32 (.fin s c q)) = .fin s c q := by
  obtain ⟨h1, h2, h3, h4⟩ := h
  rw [b32_tails] at h1 h2
  rw [b32_qmin] at h3
  rw [b32_qmax] at h4
  unfold FP.Core.encode
  dsimp only
  rw [b32_tails, b32_qmin, if_neg (by omega)]
  obtain ⟨a1, a2, a3, a4, a5⟩ := b32_asm s (e := (q - (-149)).toNat + 1) (t := c - 8388608) (by omega) (by omega)
  refine ⟨⟨a4, by omega⟩, ?_⟩
  unfold FP.Core.decode
  rw [a1, a2, a3, b32_exps, b32_tails, b32_qmin, if_neg (by omega), if_neg (by omega), show 8388608 + (c - 8388608) = c by omega, show (-149 : Int) + ((((q - (-149)).toNat + 1 : Nat) : Int) - 1) = q by omega]
/-- the bits of what is read as a normal number above nought -/
theorem bits64 {n : Nat} {c : Nat} {q : Int} (hn : n < 2 ^ 64) (h : FP.Core.decode FP.Core.b64 n = .fin false c q) (hc : 4503599627370496 ≤ c) : n = (q + 1075).toNat * 4503599627370496 + (c - 4503599627370496) ∧ 1 ≤ (q + 1075).toNat ∧ (q + 1075).toNat < 2047 ∧ c < 9007199254740992 ∧ -1074 ≤ q := by
  unfold FP.Core.decode FP.Core.fieldT FP.Core.fieldE FP.Core.fieldS at h
  rw [b64_tails, b64_exps, b64_qmin] at h
  split at h
  · split at h <;> cases h
  · rename_i a1
    split at h
    · injection h with h1 h2 h3
      omega
    · rename_i a2
      injection h with h1 h2 h3
      have h1 : n / 4503599627370496 / 2048 % 2 ≠ 1 := fun z => by rw [z] at h1; exact absurd h1 (by decide)
      omega
theorem bits0 {n : Nat} {q : Int} (hn : n < 2 ^ 64) (h : FP.Core.decode FP.Core.b64 n = .fin false 0 q) : n = 0 := by
  unfold FP.Core.decode FP.Core.fieldT FP.Core.fieldE FP.Core.fieldS at h
  rw [b64_tails, b64_exps, b64_qmin] at h
  split at h
  · split at h <;> cases h
  · rename_i a1
    split at h
    · rename_i a2
      injection h with h1 h2 h3
      have h1 : n / 4503599627370496 / 2048 % 2 ≠ 1 := fun z => by rw [z] at h1; exact absurd h1 (by decide)
      omega
    · injection h with h1 h2 h3
      omega
theorem bits32 {n : Nat} {c : Nat} {q : Int} (hn : n < 2 ^ 32) (h : FP.Core.decode FP.Core.b32 n = .fin false c q) (hc : 8388608 ≤ c) : n = (q + 150).toNat * 8388608 + (c - 8388608) ∧ 1 ≤ (q + 150).toNat ∧ (q + 150).toNat < 255 ∧ c < 16777216 ∧ -149 ≤ q := by
  unfold FP.Core.decode FP.Core.fieldT FP.Core.fieldE FP.Core.fieldS at h
  rw [b32_tails, b32_exps, b32_qmin] at h
  split at h
  · split at h <;> cases h
  · rename_i a1
    split at h
    · injection h with h1 h2 h3
      omega
    · rename_i a2
      injection h with h1 h2 h3
      have h1 : n / 8388608 / 256 % 2 ≠ 1 := fun z => by rw [z] at h1; exact absurd h1 (by decide)
      omega
theorem bits032 {n : Nat} {q : Int} (hn : n < 2 ^ 32) (h : FP.Core.decode FP.Core.b32 n = .fin false 0 q) : n = 0 := by
  unfold FP.Core.decode FP.Core.fieldT FP.Core.fieldE FP.Core.fieldS at h
  rw [b32_tails, b32_exps, b32_qmin] at h
  split at h
  · split at h <;> cases h
  · rename_i a1
    split at h
    · rename_i a2
      injection h with h1 h2 h3
      have h1 : n / 8388608 / 256 % 2 ≠ 1 := fun z => by rw [z] at h1; exact absurd h1 (by decide)
      omega
    · injection h with h1 h2 h3
      omega
end P_35r_43m_float
section P_35r_43n_sums
/-! whole numbers as doubles, their sums and quotients, and the bits of a double -/
def isI (u : UInt64) (n : Nat) : Prop := (n = 0 ∧ dc u = .fin false 0 (-1074)) ∨ ∃ c j : Nat, dc u = .fin false c (-(j : Int)) ∧ c = n * 2 ^ j ∧ 4503599627370496 ≤ c ∧ c < 9007199254740992 ∧ j ≤ 52
theorem f64 : fmOK FP.Core.b64 := Or.inl rfl
theorem f32 : fmOK FP.Core.b32 := Or.inr rfl
theorem CN64 {c : Nat} {q : Int} (h1 : 4503599627370496 ≤ c) (h2 : c < 9007199254740992) (h3 : -1074 ≤ q) (h4 : q ≤ 971) : CN FP.Core.b64 c q := by
  unfold CN
  rw [b64_tails, b64_qmin, b64_qmax]
  exact ⟨h1, by omega, h3, h4⟩
theorem u_dc {u : UInt64} {c : Nat} {q : Int} (h : dc u = .fin false c q) (hc : 4503599627370496 ≤ c) : u.toNat = (q + 1075).toNat * 4503599627370496 + (c - 4503599627370496) ∧ 1 ≤ (q + 1075).toNat ∧ (q + 1075).toNat < 2047 ∧ c < 9007199254740992 ∧ -1074 ≤ q := bits64 (UInt64.toNat_lt u) h hc
theorem u_eq {u v : UInt64} {c : Nat} {q : Int} (h : dc u = .fin false c q) (h' : dc v = .fin false c q) (hc : 4503599627370496 ≤ c) : u = v := UInt64.toNat_inj.mp ((u_dc h hc).1.trans (u_dc h' hc).1.symm)
theorem isI_uniq {u v : UInt64} {n : Nat} (h : isI u n) (h' : isI v n) : u = v := by
  rcases h with ⟨h0, h⟩ | ⟨c, j, h, hc, h1, h2, h3⟩
  · rcases h' with ⟨_, h'⟩ | ⟨c, j, _, hc, h1, _⟩
    · exact UInt64.toNat_inj.mp ((bits0 (UInt64.toNat_lt u) h).trans (bits0 (UInt64.toNat_lt v) h').symm)
    · rw [h0, Nat.zero_mul] at hc; omega
  · rcases h' with ⟨h0, _⟩ | ⟨c', j', h', hc', h1', h2', h3'⟩
    · rw [h0, Nat.zero_mul] at hc; omega
    · have : j = j' := by
        rcases Nat.lt_trichotomy j j' with z | z | z
        · exfalso
          have e : c' = c * 2 ^ (j' - j) := by rw [hc, hc', Nat.mul_assoc, ← Nat.pow_add, show j + (j' - j) = j' by omega]
          have : 2 ^ 1 ≤ 2 ^ (j' - j) := Nat.pow_le_pow_right (by decide) (by omega)
          have : c * 2 ^ 1 ≤ c * 2 ^ (j' - j) := Nat.mul_le_mul_left _ this
          omega
        · exact z
        · exfalso
          have e : c = c' * 2 ^ (j - j') := by rw [hc, hc', Nat.mul_assoc, ← Nat.pow_add, show j' + (j - j') = j by omega]
          have : 2 ^ 1 ≤ 2 ^ (j - j') := Nat.pow_le_pow_right (by decide) (by omega)
          have : c' * 2 ^ 1 ≤ c' * 2 ^ (j - j') := Nat.mul_le_mul_left _ this
          omega
      subst this
      have : c = c' := hc.trans hc'.symm
      subst this
      exact u_eq h h' h1
/-- the normal form of a whole number -/
theorem norm_n {n : Nat} (h0 : n ≠ 0) (h : n < 9007199254740992) : ∃ j, j ≤ 52 ∧ 4503599627370496 ≤ n * 2 ^ j ∧ n * 2 ^ j < 9007199254740992 := by
  have l := Nat.log2_self_le h0
  have l2 : n < 2 ^ (n.log2 + 1) := Nat.lt_log2_self
  have l3 : n.log2 < 53 := (Nat.log2_lt h0).mpr h
  refine ⟨52 - n.log2, by omega, ?_, ?_⟩
  · have := Nat.mul_le_mul_right (2 ^ (52 - n.log2)) l
    rw [← Nat.pow_add, show n.log2 + (52 - n.log2) = 52 by omega] at this
    exact this
  · have := Nat.mul_lt_mul_of_pos_right l2 (Nat.two_pow_pos (52 - n.log2))
    rw [← Nat.pow_add, show n.log2 + 1 + (52 - n.log2) = 53 by omega] at this
    exact this
/-- a whole number of units of 2^e rounds to itself -/
theorem rd_int {n x : Nat} {e : Int} (s : Bool) (h0 : n ≠ 0) (h : n < 9007199254740992) (he : e ≤ 0) (hx : x = n * 2 ^ (-e).toNat) : ∃ c j : Nat, c = n * 2 ^ j ∧ 4503599627370496 ≤ c ∧ c < 9007199254740992 ∧ j ≤ 52 ∧ FP.Core.roundRatio FP.Core.b64 s x 1 e = .fin s c (-(j : Int)) := by
  obtain ⟨j, j1, j2, j3⟩ := norm_n h0 h
  refine ⟨_, j, rfl, j2, j3, j1, rr_exact f64 (CN64 j2 j3 (by omega) (by omega)) (by rw [b64_qmax]; omega) ?_⟩
  rcases (by omega : -(j : Int) ≤ e ∨ e ≤ -(j : Int)) with z | z
  · refine Or.inl ⟨z, ?_⟩
    rw [hx, Nat.mul_assoc, ← Nat.pow_add, show (-e).toNat + (e - -(j : Int)).toNat = j by omega]
  · refine Or.inr ⟨z, ?_⟩
    rw [hx, Nat.mul_assoc, ← Nat.pow_add, show j + (-(j : Int) - e).toNat = (-e).toNat by omega]
theorem isI_of {n : Nat} {x : Nat} {e : Int} (h : n < 9007199254740992) (he : e ≤ 0) (hx : x = n * 2 ^ (-e).toNat) : b64ok (FP.Core.encode FP.Core.b64 (FP.Core.roundRatio FP.Core.b64 false x 1 e)) ∧ isI (UInt64.ofNat (FP.Core.encode FP.Core.b64 (FP.Core.roundRatio FP.Core.b64 false x 1 e))) n := by
  by_cases h0 : n = 0
  · have e1 : FP.Core.roundRatio FP.Core.b64 false x 1 e = .fin false 0 (-1074) := by
      unfold FP.Core.roundRatio
      rw [if_pos (by rw [hx, h0, Nat.zero_mul]), b64_qmin]
    rw [e1]
    obtain ⟨a, b⟩ := ez64 false
    exact ⟨a, Or.inl ⟨h0, (b64_dc a).trans b⟩⟩
  · obtain ⟨c, j, c1, c2, c3, c4, c5⟩ := rd_int false h0 h he hx
    rw [c5]
    obtain ⟨a, b⟩ := ed64 (CN64 c2 c3 (by omega) (by omega)) (q := -(j : Int)) false
    exact ⟨a, Or.inr ⟨c, j, (b64_dc a).trans b, c1, c2, c3, c4⟩⟩
theorem i2d_I {n : Nat} (h : n < 2 ^ 31) : isI (FP.i2d (nI n)) n := by
  have e : FP.i2d (nI n) = UInt64.ofNat (FP.Core.encode FP.Core.b64 (FP.Core.roundRatio FP.Core.b64 false n 1 0)) := by
    show UInt64.ofNat (FP.Core.fromInt FP.Core.b64 (nI n).toInt) = _
    rw [tnI h]
    unfold FP.Core.fromInt FP.Core.ofInt FP.Core.round
    dsimp only
    rw [decide_eq_false (by omega), Int.natAbs_natCast]
  rw [e]
  exact (isI_of (n := n) (x := n) (e := 0) (by omega) (by omega) (by show n = n * 1; omega)).2
theorem l2d_I {n : Nat} {v : Int64} (h : n < 9007199254740992) (hv : v.toInt = n) : isI (FP.l2d v) n := by
  have e : FP.l2d v = UInt64.ofNat (FP.Core.encode FP.Core.b64 (FP.Core.roundRatio FP.Core.b64 false n 1 0)) := by
    show UInt64.ofNat (FP.Core.fromInt FP.Core.b64 v.toInt) = _
    rw [hv]
    unfold FP.Core.fromInt FP.Core.ofInt FP.Core.round
    dsimp only
    rw [decide_eq_false (by omega), Int.natAbs_natCast]
  rw [e]
  exact (isI_of (n := n) (x := n) (e := 0) h (by omega) (by show n = n * 1; omega)).2
theorem iu_at {n c : Nat} {q e : Int} (hc : c = n * 2 ^ (-q).toNat) (hq : q ≤ 0) (he : e ≤ q) : FP.Core.inUnits c q e = n * 2 ^ (-e).toNat := by
  unfold FP.Core.inUnits
  rw [hc, Nat.mul_assoc, ← Nat.pow_add, show (-q).toNat + (q - e).toNat = (-e).toNat by omega]
/-- a whole number, read -/
theorem isI.rd {u : UInt64} {n : Nat} (h : isI u n) : ∃ c q, dc u = .fin false c q ∧ q ≤ 0 ∧ c = n * 2 ^ (-q).toNat ∧ -1074 ≤ q := by
  rcases h with ⟨h0, h⟩ | ⟨c, j, h, hc, _, _, hj⟩
  · exact ⟨0, -1074, h, by omega, by rw [h0, Nat.zero_mul], by omega⟩
  · exact ⟨c, -(j : Int), h, by omega, by rw [hc, show (- -(j : Int)).toNat = j by omega], by omega⟩
theorem dadd_I {u v : UInt64} {a b : Nat} (h : isI u a) (h' : isI v b) (hs : a + b < 9007199254740992) : ∃ w, gD (FP.dadd u v) = some w ∧ isI w (a + b) := by
  obtain ⟨c, q, e1, e2, e3, _⟩ := h.rd
  obtain ⟨d, r, f1, f2, f3, _⟩ := h'.rd
  have hm : min q r ≤ 0 := by omega
  have su : FP.Core.sumUnits false c q false d r (min q r) = (((a + b) * 2 ^ (-(min q r)).toNat : Nat) : Int) := by
    unfold FP.Core.sumUnits
    rw [sg_f, sg_f, iu_at e3 e2 (by omega), iu_at f3 f2 (by omega), Nat.add_mul]
    omega
  have ss : FP.Core.sumSign false false (((a + b) * 2 ^ (-(min q r)).toNat : Nat) : Int) = false := by
    unfold FP.Core.sumSign
    split
    · rfl
    · exact decide_eq_false (by omega)
  have k : FP.Core.round FP.Core.b64 (FP.Core.exactSum (dc u) (dc v)) = FP.Core.roundRatio FP.Core.b64 false ((a + b) * 2 ^ (-(min q r)).toNat) 1 (min q r) := by
    rw [e1, f1]
    show FP.Core.round FP.Core.b64 (.fin (FP.Core.sumSign false false (FP.Core.sumUnits false c q false d r (min q r))) (FP.Core.sumUnits false c q false d r (min q r)).natAbs (min q r)) = _
    rw [su, ss, Int.natAbs_natCast]
    rfl
  obtain ⟨g1, g2⟩ := isI_of hs hm (x := (a + b) * 2 ^ (-(min q r)).toNat) rfl
  refine ⟨_, ?_, g2⟩
  rw [← k] at g1 ⊢
  exact b64_g g1
/-- nought, or a normal number above it -/
def NB (u : UInt64) : Prop := dc u = .fin false 0 (-1074) ∨ ∃ c q, dc u = .fin false c q ∧ 4503599627370496 ≤ c ∧ c < 9007199254740992 ∧ -900 ≤ q ∧ q ≤ 900
theorem lead_d {a b : Nat} (ha : 4503599627370496 ≤ a) (ha' : a < 9007199254740992) (hb : 4503599627370496 ≤ b) (hb' : b < 9007199254740992) : (b ≤ a ∧ FP.Core.leading a b = 0) ∨ (a < b ∧ FP.Core.leading a b = -1) := by
  have la : a.log2 = 52 := lg2 (k := 52) ha ha'
  have lb : b.log2 = 52 := lg2 (k := 52) hb hb'
  unfold FP.Core.leading
  dsimp only
  rw [la, lb, show (((52 : Nat) : Int) - ((52 : Nat) : Int)).toNat = 0 by omega, show (-(((52 : Nat) : Int) - ((52 : Nat) : Int))).toNat = 0 by omega, Nat.pow_zero, Nat.mul_one, Nat.mul_one]
  by_cases c : b ≤ a
  · rw [if_pos c]; exact Or.inl ⟨c, by omega⟩
  · rw [if_neg c]; exact Or.inr ⟨by omega, by omega⟩
/-- a quotient of normal numbers -/
theorem quo64 {a b : Nat} {e : Int} (ha : 4503599627370496 ≤ a) (ha' : a < 9007199254740992) (hb : 4503599627370496 ≤ b) (hb' : b < 9007199254740992) (he : -900 ≤ e ∧ e ≤ 900) : ∃ c q, FP.Core.roundRatio FP.Core.b64 false a b e = .fin false c q ∧ 4503599627370496 ≤ c ∧ c < 9007199254740992 ∧ e - 53 ≤ q ∧ q ≤ e - 51 := by
  have fin : ∀ Q, FP.Core.leading a b + e - 52 = Q → e - 53 ≤ Q → Q ≤ e - 52 → ∀ m, FP.Core.nearest (FP.Core.unitsNum a e Q) (FP.Core.unitsDen b e Q) = m → 4503599627370496 ≤ m → m ≤ 9007199254740992 → ∃ c q, FP.Core.roundRatio FP.Core.b64 false a b e = .fin false c q ∧ 4503599627370496 ≤ c ∧ c < 9007199254740992 ∧ e - 53 ≤ q ∧ q ≤ e - 51 := fun Q h1 h2 h3 m h4 h5 h6 => by
    obtain ⟨c, q, g1, g2, g3⟩ := rr_at f64 (s := false) (num := a) (den := b) (m := m) (e := e) (Q := Q) (by omega) (by show FP.Core.leading a b + e - ((53 : Int) - 1) = Q; omega) (by rw [b64_qmin]; omega) (by rw [b64_qmax]; omega) h4 (by rw [b64_tails]; exact h5) (by rw [b64_tails]; omega)
    unfold CN at g2
    rw [b64_tails] at g2 g3
    exact ⟨c, q, g1, g2.1, by omega, by omega, by omega⟩
  rcases lead_d ha ha' hb hb' with ⟨z, l⟩ | ⟨z, l⟩
  · refine fin (e - 52) (by rw [l]; omega) (by omega) (by omega) _ rfl ?_ ?_
    · unfold FP.Core.unitsNum FP.Core.unitsDen
      rw [show (e - (e - 52)).toNat = 52 by omega, show (e - 52 - e).toNat = 0 by omega]
      exact near_ge (by omega) (by omega)
    · unfold FP.Core.unitsNum FP.Core.unitsDen
      rw [show (e - (e - 52)).toNat = 52 by omega, show (e - 52 - e).toNat = 0 by omega]
      exact near_le (by omega) (by omega)
  · refine fin (e - 53) (by rw [l]; omega) (by omega) (by omega) _ rfl ?_ ?_
    · unfold FP.Core.unitsNum FP.Core.unitsDen
      rw [show (e - (e - 53)).toNat = 53 by omega, show (e - 53 - e).toNat = 0 by omega]
      exact near_ge (by omega) (by omega)
    · unfold FP.Core.unitsNum FP.Core.unitsDen
      rw [show (e - (e - 53)).toNat = 53 by omega, show (e - 53 - e).toNat = 0 by omega]
      exact near_le (by omega) (by omega)
/-- a double that is nought or normal, by a whole number -/
theorem ddiv_NB {u v : UInt64} {b : Nat} (h : dc u = .fin false 0 (-1074) ∨ ∃ c q, dc u = .fin false c q ∧ 4503599627370496 ≤ c ∧ c < 9007199254740992 ∧ -700 ≤ q ∧ q ≤ 700) (h' : isI v b) (hb : b ≠ 0) : ∃ w, gD (FP.ddiv u v) = some w ∧ NB w := by
  rcases h' with ⟨z, _⟩ | ⟨d, j, f1, _, f2, f3, f4⟩
  · exact absurd z hb
  have dz : d ≠ 0 := by omega
  rcases h with h | ⟨c, q, e1, e2, e3, e4, e5⟩
  · have k : FP.Core.quotient FP.Core.b64 (dc u) (dc v) = .fin false 0 (-1074) := by
      rw [h, f1]
      show (if d = 0 then _ else FP.Core.roundRatio FP.Core.b64 (false != false) 0 d _) = _
      rw [if_neg dz]
      unfold FP.Core.roundRatio
      rw [if_pos rfl, b64_qmin]; rfl
    obtain ⟨a, b⟩ := ez64 false
    rw [← k] at a b
    exact ⟨_, b64_g a, Or.inl (((b64_dc a).trans b).trans k)⟩
  · obtain ⟨c', q', g1, g2, g3, g4, g5⟩ := quo64 (e := q - -(j : Int)) e2 e3 f2 f3 ⟨by omega, by omega⟩
    have k : FP.Core.quotient FP.Core.b64 (dc u) (dc v) = .fin false c' q' := by
      rw [e1, f1]
      show (if d = 0 then _ else FP.Core.roundRatio FP.Core.b64 (false != false) c d (q - -(j : Int))) = _
      rw [if_neg dz]
      exact g1
    obtain ⟨a, b⟩ := ed64 (CN64 g2 g3 (q := q') (by omega) (by omega)) false
    rw [← k] at a b
    exact ⟨_, b64_g a, Or.inr ⟨c', q', ((b64_dc a).trans b).trans k, g2, g3, by omega, by omega⟩⟩
end P_35r_43n_sums
section P_35r_43o_bits
/-! the bits of a double, as the class reckons them -/
theorem dk_2 : dc (4611686018427387904 : UInt64) = .fin false 4503599627370496 (-51) := by decide +kernel
theorem dk_1 : dc FP.dconst1 = .fin false 4503599627370496 (-52) := by decide +kernel
theorem dk_52 : dc (4841369599423283200 : UInt64) = .fin false 4503599627370496 0 := by decide +kernel
theorem cv_lt {a b : Int} : Op.cmpValue (some (compare a b)) .l < 0 ↔ a < b := by
  rcases Int.lt_trichotomy a b with h | h | h
  · rw [Int.compare_eq_lt.mpr h]; exact ⟨fun _ => h, fun _ => by decide⟩
  · rw [Int.compare_eq_eq.mpr h]; exact ⟨fun z => absurd z (by decide), fun z => by omega⟩
  · rw [Int.compare_eq_gt.mpr h]; exact ⟨fun z => absurd z (by decide), fun z => by omega⟩
theorem cv_gt {a b : Int} : 0 < Op.cmpValue (some (compare a b)) .l ↔ b < a := by
  rcases Int.lt_trichotomy a b with h | h | h
  · rw [Int.compare_eq_lt.mpr h]; exact ⟨fun z => absurd z (by decide), fun z => by omega⟩
  · rw [Int.compare_eq_eq.mpr h]; exact ⟨fun z => absurd z (by decide), fun z => by omega⟩
  · rw [Int.compare_eq_gt.mpr h]; exact ⟨fun _ => h, fun _ => by decide⟩
theorem cv_ge {a b : Int} : 0 ≤ Op.cmpValue (some (compare a b)) .g ↔ b ≤ a := by
  rcases Int.lt_trichotomy a b with h | h | h
  · rw [Int.compare_eq_lt.mpr h]; exact ⟨fun z => absurd z (by decide), fun z => by omega⟩
  · rw [Int.compare_eq_eq.mpr h]; exact ⟨fun _ => by omega, fun _ => by decide⟩
  · rw [Int.compare_eq_gt.mpr h]; exact ⟨fun _ => by omega, fun _ => by decide⟩
theorem dcmp_fin {x y : UInt64} {s t : Bool} {c d : Nat} {q r : Int} (h : dc x = .fin s c q) (h' : dc y = .fin t d r) : FP.dcmp x y = some (compare (FP.Core.signed s (FP.Core.inUnits c q (min q r))) (FP.Core.signed t (FP.Core.inUnits d r (min q r)))) := by
  show FP.Core.order (dc x) (dc y) = _
  rw [h, h']; rfl
/-- beside a power of two -/
theorem iu_lt {c : Nat} {q r : Int} (h1 : 4503599627370496 ≤ c) (h2 : c < 9007199254740992) : (FP.Core.signed false (FP.Core.inUnits c q (min q r)) < FP.Core.signed false (FP.Core.inUnits 4503599627370496 r (min q r))) ↔ q < r := by
  rw [sg_f, sg_f]
  unfold FP.Core.inUnits
  rcases Int.lt_or_le q r with z | z
  · rw [show (q - min q r).toNat = 0 by omega, Nat.pow_zero, Nat.mul_one]
    have : 2 ^ 1 ≤ 2 ^ (r - min q r).toNat := Nat.pow_le_pow_right (by decide) (by omega)
    have : 4503599627370496 * 2 ^ 1 ≤ 4503599627370496 * 2 ^ (r - min q r).toNat := Nat.mul_le_mul_left _ this
    exact ⟨fun _ => z, fun _ => by omega⟩
  · rw [show (r - min q r).toNat = 0 by omega, Nat.pow_zero, Nat.mul_one]
    have : 1 ≤ 2 ^ (q - min q r).toNat := Nat.two_pow_pos _
    have : c * 1 ≤ c * 2 ^ (q - min q r).toNat := Nat.mul_le_mul_left _ this
    exact ⟨fun y => by omega, fun y => by omega⟩
theorem quo_fin {f : FP.Core.Fmt} {s t : Bool} {c d : Nat} {q r : Int} (hd : d ≠ 0) : FP.Core.quotient f (.fin s c q) (.fin t d r) = FP.Core.roundRatio f (s != t) c d (q - r) := if_neg hd
theorem d_half {x : UInt64} {c : Nat} {q : Int} (h : dc x = .fin false c q) (h1 : 4503599627370496 ≤ c) (h2 : c < 9007199254740992) (h3 : -1000 ≤ q) (h4 : q ≤ 901) : ∃ w, gD (FP.ddiv x (4611686018427387904 : UInt64)) = some w ∧ dc w = .fin false c (q - 1) := by
  have l : FP.Core.leading c 4503599627370496 = 0 := by
    rcases lead_d h1 h2 (b := 4503599627370496) (by omega) (by omega) with ⟨_, l⟩ | ⟨z, _⟩
    · exact l
    · omega
  have k : FP.Core.quotient FP.Core.b64 (dc x) (dc (4611686018427387904 : UInt64)) = .fin false c (q - 1) := by
    rw [h, dk_2]
    have qe : FP.Core.quotient FP.Core.b64 (.fin false c q) (.fin false 4503599627370496 (-51)) = FP.Core.roundRatio FP.Core.b64 (false != false) c 4503599627370496 (q - (-51)) := quo_fin (by decide)
    rw [qe]
    have nm : FP.Core.nearest (FP.Core.unitsNum c (q - (-51)) (q - 1)) (FP.Core.unitsDen 4503599627370496 (q - (-51)) (q - 1)) = c := by
      unfold FP.Core.unitsNum FP.Core.unitsDen
      rw [show (q - (-51) - (q - 1)).toNat = 52 by omega, show (q - 1 - (q - (-51))).toNat = 0 by omega]
      exact near_eq (by omega)
    obtain ⟨c', q', g1, _, g3⟩ := rr_at f64 (s := false) (num := c) (den := 4503599627370496) (e := q - (-51)) (Q := q - 1) (m := c) (by omega) (by rw [l]; show 0 + (q - (-51)) - ((53 : Int) - 1) = q - 1; omega) (by rw [b64_qmin]; omega) (by rw [b64_qmax]; omega) nm (by rw [b64_tails]; exact h1) (by rw [b64_tails]; omega)
    rw [b64_tails] at g3
    rcases g3 with ⟨_, rfl, rfl⟩ | ⟨z, _⟩
    · exact g1
    · omega
  obtain ⟨a, b⟩ := ed64 (CN64 h1 h2 (q := q - 1) (by omega) (by omega)) false
  rw [← k] at a b
  exact ⟨_, b64_g a, ((b64_dc a).trans b).trans k⟩
theorem d_mul {x y : UInt64} {c : Nat} {q r : Int} (h : dc x = .fin false c q) (hy : dc y = .fin false 4503599627370496 r) (h1 : 4503599627370496 ≤ c) (h2 : c < 9007199254740992) (h3 : -1074 ≤ q + r + 52) (h4 : q + r + 52 ≤ 901) : ∃ w, gD (FP.dmul x y) = some w ∧ dc w = .fin false c (q + r + 52) := by
  have k : FP.Core.round FP.Core.b64 (FP.Core.exactProduct (dc x) (dc y)) = .fin false c (q + r + 52) := by
    rw [h, hy]
    show FP.Core.roundRatio FP.Core.b64 (false != false) (c * 4503599627370496) 1 (q + r) = _
    refine rr_exact f64 (CN64 h1 h2 h3 (by omega)) (by rw [b64_qmax]; omega) (Or.inr ⟨by omega, ?_⟩)
    rw [show (q + r + 52 - (q + r)).toNat = 52 by omega]
  obtain ⟨a, b⟩ := ed64 (CN64 h1 h2 (q := q + r + 52) h3 (by omega)) false
  rw [← k] at a b
  exact ⟨_, b64_g a, ((b64_dc a).trans b).trans k⟩
theorem d_mul0 {x y : UInt64} {d : Nat} {q r : Int} (h : dc x = .fin false 0 q) (hy : dc y = .fin false d r) : ∃ w, gD (FP.dmul x y) = some w ∧ dc w = .fin false 0 (-1074) := by
  have k : FP.Core.round FP.Core.b64 (FP.Core.exactProduct (dc x) (dc y)) = .fin false 0 (-1074) := by
    rw [h, hy]
    show FP.Core.roundRatio FP.Core.b64 (false != false) (0 * d) 1 (q + r) = _
    unfold FP.Core.roundRatio
    rw [if_pos (Nat.zero_mul _), b64_qmin]; rfl
  obtain ⟨a, b⟩ := ez64 false
  rw [← k] at a b
  exact ⟨_, b64_g a, ((b64_dc a).trans b).trans k⟩
/-- less one: the digits behind the first -/
theorem d_less1 {x : UInt64} {c : Nat} (h : dc x = .fin false c (-52)) (h1 : 4503599627370496 ≤ c) (h2 : c < 9007199254740992) : ∃ w, gD (FP.dsub x FP.dconst1) = some w ∧ ((c = 4503599627370496 ∧ dc w = .fin false 0 (-1074)) ∨ ∃ m j : Nat, m = (c - 4503599627370496) * 2 ^ j ∧ 4503599627370496 ≤ m ∧ m < 9007199254740992 ∧ j ≤ 52 ∧ dc w = .fin false m (-52 - (j : Int))) := by
  have su : FP.Core.sumUnits false c (-52) true 4503599627370496 (-52) (min (-52) (-52)) = ((c - 4503599627370496 : Nat) : Int) := by
    unfold FP.Core.sumUnits FP.Core.inUnits
    rw [sg_f, sg_t, show ((-52 : Int) - min (-52) (-52)).toNat = 0 by decide, Nat.pow_zero, Nat.mul_one, Nat.mul_one]
    omega
  have ss : FP.Core.sumSign false true ((c - 4503599627370496 : Nat) : Int) = false := by
    unfold FP.Core.sumSign
    split
    · rfl
    · exact decide_eq_false (by omega)
  have k : FP.Core.round FP.Core.b64 (FP.Core.exactSum (dc x) (FP.Core.negate (dc FP.dconst1))) = FP.Core.roundRatio FP.Core.b64 false (c - 4503599627370496) 1 (-52) := by
    rw [h, dk_1]
    show FP.Core.round FP.Core.b64 (.fin (FP.Core.sumSign false true (FP.Core.sumUnits false c (-52) true 4503599627370496 (-52) (min (-52) (-52)))) (FP.Core.sumUnits false c (-52) true 4503599627370496 (-52) (min (-52) (-52))).natAbs (min (-52) (-52))) = _
    rw [su, ss, Int.natAbs_natCast]
    rfl
  by_cases z : c = 4503599627370496
  · have k2 : FP.Core.round FP.Core.b64 (FP.Core.exactSum (dc x) (FP.Core.negate (dc FP.dconst1))) = .fin false 0 (-1074) := by
      rw [k]
      unfold FP.Core.roundRatio
      rw [if_pos (by omega), b64_qmin]
    obtain ⟨a, b⟩ := ez64 false
    rw [← k2] at a b
    exact ⟨_, b64_g a, Or.inl ⟨z, ((b64_dc a).trans b).trans k2⟩⟩
  · obtain ⟨j, j1, j2, j3⟩ := norm_n (n := c - 4503599627370496) (by omega) (by omega)
    have k2 : FP.Core.round FP.Core.b64 (FP.Core.exactSum (dc x) (FP.Core.negate (dc FP.dconst1))) = .fin false ((c - 4503599627370496) * 2 ^ j) (-52 - (j : Int)) := by
      rw [k]
      refine rr_exact f64 (CN64 j2 j3 (by omega) (by omega)) (by rw [b64_qmax]; omega) (Or.inl ⟨by omega, ?_⟩)
      rw [show (-52 - (-52 - (j : Int))).toNat = j by omega]
    obtain ⟨a, b⟩ := ed64 (CN64 j2 j3 (q := -52 - (j : Int)) (by omega) (by omega)) false
    rw [← k2] at a b
    exact ⟨_, b64_g a, Or.inr ⟨_, j, rfl, j2, j3, j1, ((b64_dc a).trans b).trans k2⟩⟩
theorem d2l_n {x : UInt64} {m t j : Nat} (h : dc x = .fin false m (-(j : Int))) (hm : m = t * 2 ^ j) (ht : t < 9007199254740992) : FP.d2l x = Int64.ofInt (t : Int) := by
  show Int64.ofInt (FP.Core.toInt (-2 ^ 63) (2 ^ 63 - 1) (dc x)) = _
  rw [h]
  unfold FP.Core.toInt FP.Core.truncate
  dsimp only
  rw [sg_f, show (-(j : Int)).toNat = 0 by omega, show (- -(j : Int)).toNat = j by omega, Nat.pow_zero, Nat.mul_one, hm, Nat.mul_div_cancel _ (Nat.two_pow_pos j)]
  congr 1
  omega
theorem d2l_0 {x : UInt64} (h : dc x = .fin false 0 (-1074)) : FP.d2l x = Int64.ofInt (0 : Nat) := by
  show Int64.ofInt (FP.Core.toInt (-2 ^ 63) (2 ^ 63 - 1) (dc x)) = _
  rw [h]
  unfold FP.Core.toInt FP.Core.truncate
  dsimp only
  rw [Nat.zero_mul, Nat.zero_div]
  rfl
/-- exponent and digits put together -/
theorem bits_or {E t : Nat} {u : UInt64} (hE : E < 2048) (ht : t < 4503599627370496) (hu : u.toNat = E * 4503599627370496 + t) : ((nI E).toInt64 <<< ((52 : Int32).toInt64 &&& 63)) ||| Int64.ofInt (t : Int) = u.toInt64 := by
  have e1 : (nI E).toInt64 = Int64.ofInt (E : Int) := by
    apply Int64.toInt_inj.mp
    rw [Int32.toInt_toInt64, tnI (by omega), Int64.toInt_ofInt, show Int64.size = 18446744073709551616 from rfl, Int.bmod_eq_of_le (by omega) (by omega)]
  apply Int64.toBitVec_inj.mp
  rw [e1]
  apply BitVec.eq_of_toNat_eq
  show ((BitVec.ofInt 64 (E : Int)) <<< ((((52 : Int32).toInt64 &&& 63).toBitVec).smod 64) ||| BitVec.ofInt 64 (t : Int)).toNat = u.toBitVec.toNat
  rw [show ((((52 : Int32).toInt64 &&& 63).toBitVec).smod 64) = 52#64 by decide +kernel]
  rw [BitVec.toNat_or, BitVec.shiftLeft_eq', BitVec.toNat_shiftLeft, show (52#64).toNat = 52 from rfl, BitVec.ofInt_natCast, BitVec.ofInt_natCast, BitVec.toNat_ofNat, BitVec.toNat_ofNat, Nat.shiftLeft_eq, Nat.mod_eq_of_lt (show E < 2 ^ 64 by omega), Nat.mod_eq_of_lt (show t < 2 ^ 64 by omega), Nat.mod_eq_of_lt (show E * 2 ^ 52 < 2 ^ 64 by omega)]
  show E * 2 ^ 52 ||| t = u.toNat
  rw [hu, Nat.mul_comm E, ← Nat.two_pow_add_eq_or_of_lt (show t < 2 ^ 52 by omega)]
theorem c_bits {u : UInt64} (h : NB u) : fX0_bitsOfDouble u = some u.toInt64 := by
  unfold fX0_bitsOfDouble
  rcases h with h | ⟨c, q, h, h1, h2, h3, h4⟩
  · have e0 : u.toNat = 0 := bits0 (UInt64.toNat_lt u) h
    rw [dcmp_fin h dc_0, if_neg (fun z => by have := cv_gt.mp z; rw [sg_f, iu_0] at this; omega)]
    have : u = 0 := UInt64.toNat_inj.mp e0
    rw [this]; rfl
  · have hz : 0 < FP.Core.inUnits c q (min q (-1074)) := by
      unfold FP.Core.inUnits
      exact Nat.mul_pos (by omega) (Nat.two_pow_pos _)
    rw [dcmp_fin h dc_0, if_pos (cv_gt.mpr (by rw [sg_f, sg_f, iu_0]; omega))]
    obtain ⟨un, u1, u2, _, _⟩ := u_dc h h1
    -- halved till it is less than two
    have k18 : T (lX0_bitsOfDouble_18 (u, 1023, 0)) (fun r => ∃ x q' : Int, dc r.1 = .fin false c q' ∧ r.2.toInt = x ∧ x = 1023 + (q - q') ∧ q' ≤ -52 ∧ -900 ≤ q' ∧ q' ≤ q) := by
      unfold lX0_bitsOfDouble_18
      refine t_it (P := fun s => ∃ i : Nat, i ≤ 1000 ∧ dc s.1 = .fin false c (q - i) ∧ s.2.1 = nI (1023 + i) ∧ s.2.2 = nI i ∧ (i = 0 ∨ -52 ≤ q - i)) (μ := fun s => 3000 - s.2.2.toInt.toNat) (fun s p => ?_) ⟨0, by omega, by rw [show q - ((0 : Nat) : Int) = q by omega]; exact h, rfl, rfl, Or.inl rfl⟩
      obtain ⟨x, s2, s3⟩ := s
      obtain ⟨i, hi, g1, g2, g3, g4⟩ := p
      dsimp only at g1 g2 g3
      subst g2; subst g3
      dsimp only
      refine t_ite (fun z => absurd ((nI_leI (a := 1022) (by omega) (by omega)).mp z) (by omega)) (fun _ => ?_)
      rw [dcmp_fin g1 dk_2]
      refine t_ite (fun z => ?_) (fun z => ?_)
      · have z := (iu_lt h1 h2).mp (cv_lt.mp z)
        exact t_ret ⟨1023 + (i : Int), q - i, g1, by rw [tnI (by omega)]; omega, by omega, by omega, by omega, by omega⟩
      · have z := mt (fun y => cv_lt.mpr ((iu_lt (r := -51) h1 h2).mpr y)) z
        obtain ⟨w, ew, hw⟩ := d_half g1 h1 h2 (by omega) (by omega)
        refine t_be ew (t_nx ⟨i + 1, by omega, by rw [hw, show q - (i : Int) - 1 = q - ((i + 1 : Nat) : Int) by omega], by show nI (1023 + i) + 1 = nI (1023 + (i + 1)); rw [nI_1, Nat.add_assoc], nI_1 i, Or.inr (by omega)⟩ ?_)
        show 3000 - (nI i + 1).toInt.toNat < 3000 - (nI i).toInt.toNat
        rw [nI_1, nIt (by omega), nIt (by omega)]; omega
    obtain ⟨⟨x, s2⟩, ew, x0, q', g1, g2, g3, g4, g5, g6⟩ := k18
    rw [ew, obs]
    dsimp only at g1 g2 ⊢
    unfold bX0_bitsOfDouble_49
    -- doubled till it is one or more
    have k52 : T (lX0_bitsOfDouble_52 (x, s2, 0)) (fun r => dc r.1 = .fin false c (-52) ∧ r.2 = nI (q + 1075).toNat) := by
      unfold lX0_bitsOfDouble_52
      refine t_it (P := fun s => ∃ i : Nat, i ≤ 1000 ∧ dc s.1 = .fin false c (q' + i) ∧ s.2.1.toInt = 1023 + (q - q') - i ∧ s.2.2 = nI i ∧ q' + i ≤ -52) (μ := fun s => 3000 - s.2.2.toInt.toNat) (fun s p => ?_) ⟨0, by omega, by rw [show q' + ((0 : Nat) : Int) = q' by omega]; exact g1, by dsimp only; omega, rfl, by omega⟩
      obtain ⟨y, s4, s3⟩ := s
      obtain ⟨i, hi, k1, k2, k3, k4⟩ := p
      dsimp only at k1 k2 k3
      subst k3
      dsimp only
      refine t_ite (fun z => absurd ((nI_leI (a := 1022) (by omega) (by omega)).mp z) (by omega)) (fun _ => ?_)
      rw [dcmp_fin k1 dk_1]
      refine t_ite (fun z => ?_) (fun z => ?_)
      · have z := cv_ge.mp z
        have z := mt (iu_lt (q := q' + i) (r := -52) h1 h2).mpr (by omega)
        have e : q' + i = -52 := by omega
        refine t_ret ⟨by rw [k1, e], ?_⟩
        apply Int32.toInt_inj.mp
        dsimp only
        rw [k2, tnI (by omega)]
        omega
      · have z := mt cv_ge.mpr z
        have z := (iu_lt (q := q' + i) (r := -52) h1 h2).mp (by omega)
        obtain ⟨w, ew, hw⟩ := d_mul k1 dk_2 h1 h2 (by omega) (by omega)
        have t1 : (s4 + (-1)).toInt = s4.toInt - 1 := by
          rw [Int32.toInt_add, show (-1 : Int32).toInt = -1 by decide, Int.bmod_eq_of_le (by omega) (by omega)]
          omega
        refine t_be ew (t_nx ⟨i + 1, by omega, by rw [hw, show q' + (i : Int) + -51 + 52 = q' + ((i + 1 : Nat) : Int) by omega], by dsimp only; rw [t1, k2]; omega, nI_1 i, by omega⟩ ?_)
        show 3000 - (nI i + 1).toInt.toNat < 3000 - (nI i).toInt.toNat
        rw [nI_1, nIt (by omega), nIt (by omega)]; omega
    obtain ⟨⟨y, s5⟩, ew2, m1, m2⟩ := k52
    rw [ew2, obs]
    dsimp only at m1 m2 ⊢
    subst m2
    unfold bX0_bitsOfDouble_81
    obtain ⟨w, ew3, hw⟩ := d_less1 m1 h1 h2
    rw [ew3, obs]
    rcases hw with ⟨hc, hw⟩ | ⟨m, j, hm, n1, n2, n3, hw⟩
    · obtain ⟨w2, ew4, hw2⟩ := d_mul0 hw dk_52
      rw [ew4, obs, d2l_0 hw2]
      have fin := bits_or (E := (q + 1075).toNat) (t := 0) (u := u) (by omega) (by omega) (by rw [un, hc])
      exact congrArg some fin
    · obtain ⟨w2, ew4, hw2⟩ := d_mul hw dk_52 n1 n2 (by omega) (by omega)
      rw [show -52 - (j : Int) + 0 + 52 = -(j : Int) by omega] at hw2
      rw [ew4, obs, d2l_n hw2 hm (by omega)]
      have fin := bits_or (E := (q + 1075).toNat) (t := c - 4503599627370496) (u := u) (by omega) (by omega) un
      exact congrArg some fin
theorem n_bits64 {u : UInt64} (h : NB u) : fJxe99ae_doubleToLongBits_ccdee u = some u.toInt64 := by
  have e : FP.dcmp u u = some .eq := by
    rcases h with h | ⟨c, q, h, _⟩
    · rw [dcmp_fin h h, Int.compare_eq_eq.mpr rfl]
    · rw [dcmp_fin h h, Int.compare_eq_eq.mpr rfl]
  unfold fJxe99ae_doubleToLongBits_ccdee fJxe99ae_isNaN_b9ae7
  rw [e, if_pos (show Op.cmpValue (some .eq) .l = 0 by decide), obs, if_pos rfl]
end P_35r_43o_bits
section P_35r_43p_means
/-! means: the sums of both, and the quotient -/
/-- nought, or normal and not far from one -/
def NM (u : UInt64) : Prop := dc u = .fin false 0 (-1074) ∨ ∃ c q, dc u = .fin false c q ∧ 4503599627370496 ≤ c ∧ c < 9007199254740992 ∧ -105 ≤ q ∧ q ≤ 1
theorem NM.nb {u : UInt64} (h : NM u) : NB u := by
  rcases h with h | ⟨c, q, h, h1, h2, h3, h4⟩
  · exact Or.inl h
  · exact Or.inr ⟨c, q, h, h1, h2, by omega, by omega⟩
theorem ddiv_I {u v : UInt64} {a b : Nat} (h : isI u a) (h' : isI v b) (hb : b ≠ 0) : ∃ w, gD (FP.ddiv u v) = some w ∧ NM w ∧ (a ≤ 127 * b → dc w = .fin false 0 (-1074) ∨ ∃ c q, dc w = .fin false c q ∧ 4503599627370496 ≤ c ∧ c < 9007199254740992 ∧ -105 ≤ q ∧ q ≤ -44) := by
  rcases h' with ⟨z, _⟩ | ⟨d, j, f1, f5, f2, f3, f4⟩
  · exact absurd z hb
  have dz : d ≠ 0 := by omega
  rcases h with ⟨_, h⟩ | ⟨c, i, e1, e5, e2, e3, e4⟩
  · have k : FP.Core.quotient FP.Core.b64 (dc u) (dc v) = .fin false 0 (-1074) := by
      rw [h, f1, quo_fin dz]
      unfold FP.Core.roundRatio
      rw [if_pos rfl, b64_qmin]; rfl
    obtain ⟨a, b⟩ := ez64 false
    rw [← k] at a b
    have e := ((b64_dc a).trans b).trans k
    exact ⟨_, b64_g a, Or.inl e, fun _ => Or.inl e⟩
  · obtain ⟨c', q', g1, g2, g3, g4, g5⟩ := quo64 (e := -(i : Int) - -(j : Int)) e2 e3 f2 f3 ⟨by omega, by omega⟩
    have k : FP.Core.quotient FP.Core.b64 (dc u) (dc v) = .fin false c' q' := by
      rw [e1, f1, quo_fin dz]
      exact g1
    obtain ⟨x, y⟩ := ed64 (CN64 g2 g3 (q := q') (by omega) (by omega)) false
    rw [← k] at x y
    have e := ((b64_dc x).trans y).trans k
    refine ⟨_, b64_g x, Or.inr ⟨c', q', e, g2, g3, by omega, by omega⟩, fun hab => Or.inr ⟨c', q', e, g2, g3, by omega, ?_⟩⟩
    have : j < i + 8 := by
      rcases Nat.lt_or_ge j (i + 8) with z | z
      · exact z
      · exfalso
        have h1 : 2 ^ (i + 8) ≤ 2 ^ j := Nat.pow_le_pow_right (by decide) z
        rw [Nat.pow_add] at h1
        have h2 : b * (2 ^ i * 2 ^ 8) ≤ b * 2 ^ j := Nat.mul_le_mul_left _ h1
        have h3 : a * 2 ^ i ≤ 127 * b * 2 ^ i := Nat.mul_le_mul_right _ hab
        rw [Nat.mul_assoc] at h3
        rw [← Nat.mul_assoc] at h2
        generalize b * 2 ^ i = X at *
        omega
    omega
theorem c_sum {k l J : Nat} {ls : List Nat} {M R : gM} (o : OUT k ls M R J) (hJ : J ≤ 20736) (hl : l < 4) : ∃ w, lX0_meanOf_5 k (nI l) M (FP.dconst0, 0) = some w ∧ isI w (suUp (fun j => rdg M k j l) J) := by
  have bd : ∀ j, suUp (fun j => rdg M k j l) j ≤ 127 * j := fun j => by
    induction j with
    | zero => exact Nat.le_refl _
    | succ j ih =>
      have := rdg_lt M k j l
      show suUp (fun j => rdg M k j l) j + rdg M k j l ≤ _
      omega
  have key : T (lX0_meanOf_5 k (nI l) M (FP.dconst0, 0)) (fun w => isI w (suUp (fun j => rdg M k j l) J)) := by
    unfold lX0_meanOf_5
    refine t_it (P := fun s => ∃ j, j ≤ J ∧ s.2 = nI j ∧ isI s.1 (suUp (fun j => rdg M k j l) j)) (μ := fun s => 30000 - s.2.toInt.toNat) (fun s p => ?_) ⟨0, Nat.zero_le _, rfl, Or.inl ⟨rfl, dc_0⟩⟩
    obtain ⟨s1, s2⟩ := s
    obtain ⟨j, hj, e1, h2⟩ := p
    dsimp only at e1 h2
    subst e1
    dsimp only
    refine t_ite (fun c => ?_) (fun c => ?_)
    · rw [o.1] at c
      have := (nI_leI (by omega) (by omega)).mp c
      have : j = J := by omega
      subst this
      exact t_ret h2
    · rw [o.1] at c
      have c' := mt (nI_leI (by omega) (by omega)).mpr c
      refine t_be (c_numberAt o hJ (by omega) hl) ?_
      have b := bd j
      have g := rdg_lt M k j l
      obtain ⟨w, ew, hw⟩ := dadd_I h2 (i2d_I (n := rdg M k j l) (by omega)) (by omega)
      refine t_be ew (t_nx ⟨j + 1, by omega, nI_1 j, hw⟩ ?_)
      show 30000 - (nI j + 1).toInt.toNat < 30000 - (nI j).toInt.toNat
      rw [nI_1, nIt (by omega), nIt (by omega)]; omega
  exact key
theorem n_sum {R : gM} {l J : Nat} {f : Nat → Nat} (hJ : J ≤ 20736) (eJ : R 62 26 = nI J) (hl : l < 4) (hf : ∀ j, j < J → R 80 (4 * j + l) = nI (f j)) (f128 : ∀ j, f j < 128) : ∃ w, lX9_meanOf_5 (nI l) R (0, 0) = some w ∧ w.toInt = suUp f J ∧ suUp f J ≤ 127 * J := by
  have bd : ∀ j, suUp f j ≤ 127 * j := fun j => by
    induction j with
    | zero => exact Nat.le_refl _
    | succ j ih =>
      have := f128 j
      show suUp f j + f j ≤ _
      omega
  have key : T (lX9_meanOf_5 (nI l) R (0, 0)) (fun w => w.toInt = suUp f J ∧ suUp f J ≤ 127 * J) := by
    unfold lX9_meanOf_5
    refine t_it (P := fun s : Int64 × Int32 => ∃ j : Nat, j ≤ J ∧ s.2 = nI j ∧ s.1.toInt = ((suUp f j : Nat) : Int)) (μ := fun s => 30000 - s.2.toInt.toNat) (fun s p => ?_) ⟨0, Nat.zero_le _, rfl, rfl⟩
    obtain ⟨s1, s2⟩ := s
    obtain ⟨j, hj, e1, h2⟩ := p
    dsimp only at e1 h2
    subst e1
    dsimp only
    refine t_ite (fun c => ?_) (fun c => ?_)
    · rw [eJ] at c
      have := (nI_leI (by omega) (by omega)).mp c
      have : j = J := by omega
      subst this
      exact t_ret ⟨h2, bd j⟩
    · rw [eJ] at c
      have c' := mt (nI_leI (by omega) (by omega)).mpr c
      refine t_be (n_numberOf (by omega) hl) ?_
      rw [hf j (by omega)]
      have b := bd j
      have g := f128 j
      have e64 : (nI (f j)).toInt64.toInt = f j := by rw [Int32.toInt_toInt64, tnI (by omega)]
      refine t_nx ⟨j + 1, by omega, nI_1 j, ?_⟩ ?_
      · show (s1 + (nI (f j)).toInt64).toInt = ((suUp f j + f j : Nat) : Int)
        rw [Int64.toInt_add, h2, e64, Int.bmod_eq_of_le (by omega) (by omega)]
        omega
      · show 30000 - (nI j + 1).toInt.toNat < 30000 - (nI j).toInt.toNat
        rw [nI_1, nIt (by omega), nIt (by omega)]; omega
  exact key
theorem two_mean {ls : List Nat} {M R : gM} {J l : Nat} (o : OUT 18 ls M R J) (hJ : J ≤ 20736) (h0 : 0 < J) (hl : l < 4) (hf : ∀ j, j < J → R 80 (4 * j + l) = nI (rdg M 18 j l)) : ∃ u, fX0_meanOf 18 (nI l) M = some u ∧ fX9_meanOf (nI l) R = some u ∧ NM u ∧ (dc u = .fin false 0 (-1074) ∨ ∃ c q, dc u = .fin false c q ∧ 4503599627370496 ≤ c ∧ c < 9007199254740992 ∧ -105 ≤ q ∧ q ≤ -44) := by
  obtain ⟨w, ew, hw⟩ := c_sum o hJ hl
  obtain ⟨w2, ew2, hw2, hb⟩ := n_sum (f := fun j => rdg M 18 j l) hJ o.2.1 hl hf (fun j => rdg_lt M 18 j l)
  have e := isI_uniq hw (l2d_I (by omega) hw2)
  obtain ⟨u, eu, hu, hu2⟩ := ddiv_I hw (i2d_I (n := J) (by omega)) (by omega)
  refine ⟨u, ?_, ?_, hu, hu2 hb⟩
  · unfold fX0_meanOf
    rw [ew, obs, o.1, if_neg (fun z => by have := (nI_leI (b := 0) (by omega) (by omega)).mp z; omega), eu, obs]
  · unfold fX9_meanOf
    have ew2 : lX9_meanOf_5 (nI l) R ((0 : Int64), (0 : Int32)) = some w2 := ew2
    rw [ew2, obs, o.2.1, ← e, eu, obs]
/-- both are asked for a mean -/
theorem two_has {I R R0 : gM} {A : aT} (h : InvB I) (hW : WF A) (hC : CT I 3 A) (hM : MI false R0 R) (hA : A9 R) (hR : RT R (R 70) A) (v : Int32) : (fX8_isAsked v I = some 0 ∧ ∃ r, fX9_hasMean v R = some (0, r)) ∨ (∃ l, l < 4 ∧ v = nI l ∧ (asA A).testBit l = true ∧ fX8_isAsked v I = some 1 ∧ ∃ R' J, fX9_joinsNow R = some R' ∧ OUT 18 (fl4 A.2.2 (asA A)) I R' J ∧ J ≤ 20736 ∧ MI false R0 R' ∧ GJ9 R' ∧ A9 R' ∧ RT R' (R' 70) A ∧ ((J = 0 ∧ fX9_hasMean v R = some (0, R')) ∨ (0 < J ∧ fX9_hasMean v R = some (1, R')))) := by
  rcases two_asked hW hC hM hR v with ⟨l, hl, rfl, hb, n, z1, z2⟩ | ⟨z1, z2⟩
  · refine Or.inr ⟨l, hl, rfl, hb, z1, ?_⟩
    obtain ⟨R', J, ej, o, hJ, hS, hQ, hll, M1, G1, fR, fj⟩ := cur_two h hW n hC hM hR
    obtain ⟨A1, R1⟩ := cur_more (I := I) (R0 := I) hW hA hR fR fj
    refine ⟨R', J, ej, o, hJ, M1, G1, A1, R1, ?_⟩
    unfold fX9_hasMean fX9_rowsNow
    rw [z2, obs, if_neg (by decide), ej, obs, obs, o.2.1]
    by_cases c : J = 0
    · exact Or.inl ⟨c, if_pos (show nI J ≤ 0 by rw [c]; decide)⟩
    · exact Or.inr ⟨by omega, if_neg (fun z => by have := (nI_leI (b := 0) (by omega) (by omega)).mp z; omega)⟩
  · refine Or.inl ⟨z1, R, ?_⟩
    unfold fX9_hasMean
    rw [z2, obs, if_pos rfl]
theorem eq_mean {I : gM} (h : InvB I) {v : Int32} {a : Int64} {b : Int64 × gM} (e1 : fX8_mean v I = some a) (e2 : fX9_mean v I = some b) : a = b.1 := by
  obtain ⟨A, hW, hC, hR⟩ := h.tab
  unfold fX8_mean at e1
  unfold fX9_mean at e2
  rcases two_has h hW hC h.mi h.1.2.1 hR v with ⟨z1, r, z2⟩ | ⟨l, hl, rfl, hb, z1, R', J, ej, o, hJ, M1, G1, A1, R1, z2⟩
  · rw [z1, obs, if_pos rfl] at e1
    rw [z2, obs, if_pos rfl] at e2
    cases e1; cases e2; rfl
  · rw [z1, obs, if_neg (by decide), o.1] at e1
    rcases z2 with ⟨hz, z2⟩ | ⟨hz, z2⟩
    · rw [if_pos (by rw [hz]; rfl)] at e1
      rw [z2, obs, if_pos rfl] at e2
      cases e1; cases e2; rfl
    · rw [if_neg (show ¬ nI J = 0 from fun z => by have := nI_inj (b := 0) z (by omega) (by omega); omega)] at e1
      rw [z2, obs, if_neg (show ¬ (1 : Int32) = 0 by decide)] at e2
      obtain ⟨u, f1, f2, f3, _⟩ := two_mean o hJ hz hl (fun j hj => (d99 M1 G1 A1 hW R1 o hJ hl hb hj).1)
      rw [f1, obs, c_bits f3.nb, obs] at e1
      rw [f2, obs, n_bits64 f3.nb, obs] at e2
      cases e1; cases e2; rfl
end P_35r_43p_means
