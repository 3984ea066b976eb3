/-! texts: the tables told are the same, the scripts told are the same -/
theorem lo_157 {b : Nat} (hb : b ≤ 295) {w : gM} : ∀ s, lX9_readStep_157 (nI b) s = some w → ∀ k, s.2.1 = nI k → k ≤ 3 → ∀ a, a < b → w 68 a = s.2.2 68 a := by
  unfold lX9_readStep_157
  refine itO_ind (P := fun s : Int32 × Int32 × gM => ∀ k, s.2.1 = nI k → k ≤ 3 → ∀ a, a < b → w 68 a = s.2.2 68 a) (fun s y h hl hr k hk hk3 a ha => ?_)
  obtain ⟨s0, s1, M⟩ := s
  dsimp only at h hk
  subst hk
  rcases oi h with ⟨_, h⟩ | ⟨c, h⟩
  · obtain rfl := Option.some.inj h
    have hh := hr _ rfl
    subst hh; rfl
  · have c := mt (nI_leI (a := 3) (b := k) (by omega) (by omega)).mpr c
    rcases oi h with ⟨_, h⟩ | ⟨_, h⟩
    · obtain rfl := Option.some.inj h
      have hh := hr _ rfl
      subst hh; rfl
    · obtain ⟨r10, e10, h⟩ := ob h
      have f10 := xfX9_number _ _ e10 68 a (Or.inl (by decide)) (Or.inl (by decide))
      rw [L2, nI_add, nI_add, wI_n (by omega) (by omega), obs] at h
      generalize hN : g_up r10.2 68 (b + 2 + k) r10.1 = N at h
      have N68 : N 68 a = M 68 a := by rw [← hN, g_up_ne (Or.inr (by omega))]; exact f10
      have fin : ∀ {t0 : Int32} {K : gM}, bX9_readStep_213 (nI k) t0 K = some y → K 68 a = M 68 a → w 68 a = M 68 a := by
        intro t0 K h e
        unfold bX9_readStep_213 bX9_readStep_230 at h
        rcases oi h with ⟨_, h⟩ | ⟨_, h⟩
        · rw [pU_n, obs] at h
          obtain rfl := Option.some.inj h
          rw [hl _ rfl (k + 1) (nI_1 k) (by omega) a ha]
          dsimp only
          rw [g_up_row (by decide)]; exact e
        · rw [pU_n, obs] at h
          obtain rfl := Option.some.inj h
          rw [hl _ rfl (k + 1) (nI_1 k) (by omega) a ha]
          dsimp only
          rw [g_up_row (by decide)]; exact e
      rcases oi h with ⟨_, h⟩ | ⟨_, h⟩
      · rcases oi h with ⟨_, h⟩ | ⟨_, h⟩
        · exact fin h N68
        · obtain ⟨r13, e13, h⟩ := ob h
          have f13 := (xfX9_ahead _ e13 68 a (Or.inl (by decide))).trans N68
          rcases oi h with ⟨_, h⟩ | ⟨_, h⟩
          · exact fin h f13
          · exact fin h f13
      · exact fin h N68
theorem lo_99 {b : Nat} (hb : b ≤ 295) {I r : gM} {so x : Int32} (h : bX9_readStep_99 (nI b) so x (nI b + 1) I = some r) : ∀ a, a < b → r 68 a = I 68 a := by
  intro a ha
  unfold bX9_readStep_99 at h
  rw [nI_1, wI_n (by omega) (by omega), obs] at h
  obtain ⟨w, e, h⟩ := ob h
  obtain ⟨w', e', _, g⟩ := n_fill103 (M := g_up I 68 (b + 1) x) hb
  rw [show ((0 : Int32), g_up I 68 (b + 1) x) = (nI 0, g_up I 68 (b + 1) x) from rfl, e'] at e
  obtain rfl := Option.some.inj e
  have g1 : w' 68 a = I 68 a := by rw [g, if_neg (by omega), g_up_ne (Or.inr (by omega))]
  have fin : ∀ {t0 : Int32} {K : gM}, bX9_readStep_152 (nI b) t0 K = some r → K 68 a = I 68 a → r 68 a = I 68 a := by
    intro t0 K h e
    unfold bX9_readStep_152 at h
    obtain ⟨z, ez, h⟩ := ob h
    obtain rfl := Option.some.inj h
    exact (lo_157 hb _ ez 0 rfl (by omega) a ha).trans e
  rcases oi h with ⟨_, h⟩ | ⟨_, h⟩
  · obtain ⟨r9, e9, h⟩ := ob h
    have f9 := (xfX9_must _ _ e9 68 a (Or.inl (by decide)) (Or.inl (by decide))).trans g1
    rcases oi h with ⟨_, h⟩ | ⟨_, h⟩
    · exact fin h f9
    · exact fin h f9
  · obtain rfl := Option.some.inj h
    exact g1
theorem lo_46 {b : Nat} (hb : b ≤ 295) {I r : gM} {so : Int32} (h : bX9_readStep_46 (nI b) so I = some r) : ∀ a, a < b → r 68 a = I 68 a := by
  intro a ha
  unfold bX9_readStep_46 at h
  rcases oi h with ⟨_, h⟩ | ⟨_, h⟩
  · obtain ⟨r2, e2, h⟩ := ob h
    obtain rfl := Option.some.inj h
    exact xfX9_bad _ e2 68 a (Or.inl (by decide))
  · rw [pU_n, obs, wI_n (by omega) (by omega), obs] at h
    rcases oi h with ⟨_, h⟩ | ⟨_, h⟩
    · obtain ⟨r5, e5, h⟩ := ob h
      rw [lo_99 hb h a ha, xfX9_number _ _ e5 68 a (Or.inl (by decide)) (Or.inl (by decide)), g_up_ne (Or.inr (by omega)), g_up_row (by decide)]
    · obtain ⟨r5, e5, h⟩ := ob h
      rw [lo_99 hb h a ha, xfX9_digit _ e5 68 a (Or.inl (by decide)) (Or.inl (by decide)), g_up_ne (Or.inr (by omega)), g_up_row (by decide)]
theorem lo_readStep {b : Nat} (hb : b ≤ 295) {I r : gM} (h : fX9_readStep (nI b) I = some r) : ∀ a, a < b → r 68 a = I 68 a := by
  intro a ha
  unfold fX9_readStep at h
  obtain ⟨r1, e1, h⟩ := ob h
  have f1 := xfX9_ahead _ e1 68 a (Or.inl (by decide))
  rcases oi h with ⟨_, h⟩ | ⟨_, h⟩
  · exact (lo_46 hb h a ha).trans f1
  · rcases oi h with ⟨_, h⟩ | ⟨_, h⟩
    · exact (lo_46 hb h a ha).trans f1
    · rcases oi h with ⟨_, h⟩ | ⟨_, h⟩
      · exact (lo_46 hb h a ha).trans f1
      · rcases oi h with ⟨_, h⟩ | ⟨_, h⟩
        · exact (lo_46 hb h a ha).trans f1
        · exact (lo_46 hb h a ha).trans f1
theorem lo_readScript {s : Nat} (hs : s ≤ 4) {I : gM} {r : Int32 × gM} (h : fX9_readScript (nI s) I = some r) : (∀ a, a < 60 * s → r.2 68 a = I 68 a) ∧ ∀ a, a ≠ s → r.2 69 a = I 69 a := by
  unfold fX9_readScript at h
  obtain ⟨r1, e1, h⟩ := ob h
  rw [wI_n (by omega) (by omega), obs] at h
  obtain ⟨w, e10, h⟩ := ob h
  obtain ⟨r11, e11, h⟩ := ob h
  obtain rfl := Option.some.inj h
  have f1 := xfX9_begins _ e1
  have f11 := xfX9_ends _ e11
  have key : ∀ q, lX9_readScript_13 (nI s) q = some w → (q.1 = 0 ∨ ∃ c, c ≤ 11 ∧ q.2 69 s = nI c) → (∀ a, a < 60 * s → w 68 a = q.2 68 a) ∧ ∀ a, a ≠ s → w 69 a = q.2 69 a := by
    unfold lX9_readScript_13
    refine itO_ind (P := fun q : Int32 × gM => (q.1 = 0 ∨ ∃ c, c ≤ 11 ∧ q.2 69 s = nI c) → (∀ a, a < 60 * s → w 68 a = q.2 68 a) ∧ ∀ a, a ≠ s → w 69 a = q.2 69 a) (fun q y h hl hr hq => ?_)
    obtain ⟨q0, M⟩ := q
    dsimp only at h hq ⊢
    rcases oi h with ⟨_, h⟩ | ⟨c0, h⟩
    · obtain rfl := Option.some.inj h
      have hh := hr _ rfl
      subst hh
      exact ⟨fun _ _ => rfl, fun _ _ => rfl⟩
    · obtain ⟨c, hc, e69⟩ : ∃ c, c ≤ 11 ∧ M 69 s = nI c := by
        rcases hq with z | z
        · exact absurd z c0
        · exact z
      rw [rI_n (by omega) (by omega), obs, e69, a12, L5, nI_mul] at h
      obtain ⟨r4, e4, h⟩ := ob h
      have g4 := lo_readStep (by omega) e4
      have f4 := xfX9_readStep _ _ e4
      have r69 : ∀ a, r4 69 a = M 69 a := fun a => f4 69 a (Or.inl (by decide)) (Or.inl (by decide)) (by decide)
      rw [rI_n (by omega) (by omega), obs, r69, e69, nI_1, wI_n (by omega) (by omega), obs] at h
      generalize hN : g_up r4 69 s (nI (c + 1)) = N at h
      have N68 : ∀ a, a < 60 * s → N 68 a = M 68 a := fun a ha => by rw [← hN, g_up_row (by decide)]; exact g4 a (by omega)
      have N69 : ∀ a, a ≠ s → N 69 a = M 69 a := fun a ha => by rw [← hN, g_up_ne (Or.inr ha)]; exact r69 a
      have Ns : N 69 s = nI (c + 1) := by rw [← hN, g_up_self]
      have fin : ∀ {t0 : Int32} {K : gM}, bX9_readScript_77 t0 K = some y → (∀ a, a < 60 * s → K 68 a = M 68 a) → (∀ a, a ≠ s → K 69 a = M 69 a) → (t0 = 0 ∨ ∃ c, c ≤ 11 ∧ K 69 s = nI c) → (∀ a, a < 60 * s → w 68 a = M 68 a) ∧ ∀ a, a ≠ s → w 69 a = M 69 a := by
        intro t0 K h a1 a2 a3
        unfold bX9_readScript_77 bX9_readScript_92 at h
        rcases oi h with ⟨z, h⟩ | ⟨z, h⟩
        · rw [pU_n, obs] at h
          obtain rfl := Option.some.inj h
          obtain ⟨b1, b2⟩ := hl _ rfl (Or.inl z)
          dsimp only at b1 b2
          exact ⟨fun a ha => by rw [b1 a ha, g_up_row (by decide)]; exact a1 a ha, fun a ha => by rw [b2 a ha, g_up_row (by decide)]; exact a2 a ha⟩
        · rw [pU_n, obs] at h
          obtain rfl := Option.some.inj h
          obtain ⟨b1, b2⟩ := hl _ rfl (Or.inr (by
            rcases a3 with z' | ⟨c, hc, e⟩
            · exact absurd z' z
            · exact ⟨c, hc, by dsimp only; rw [g_up_row (by decide)]; exact e⟩))
          dsimp only at b1 b2
          exact ⟨fun a ha => by rw [b1 a ha, g_up_row (by decide)]; exact a1 a ha, fun a ha => by rw [b2 a ha, g_up_row (by decide)]; exact a2 a ha⟩
      rcases oi h with ⟨_, h⟩ | ⟨_, h⟩
      · obtain ⟨r7, e7, h⟩ := ob h
        have f7 := xfX9_ahead _ e7
        have g68 : ∀ a, a < 60 * s → r7.2 68 a = M 68 a := fun a ha => (f7 68 a (Or.inl (by decide))).trans (N68 a ha)
        have g69 : ∀ a, a ≠ s → r7.2 69 a = M 69 a := fun a ha => (f7 69 a (Or.inl (by decide))).trans (N69 a ha)
        have gs : r7.2 69 s = nI (c + 1) := (f7 69 s (Or.inl (by decide))).trans Ns
        rcases oi h with ⟨_, h⟩ | ⟨_, h⟩
        · rw [rI_n (by omega) (by omega), obs, gs] at h
          rcases oi h with ⟨_, h⟩ | ⟨z, h⟩
          · exact fin (t0 := 0) h g68 g69 (Or.inl rfl)
          · have z := mt (nI_leI (a := 12) (b := c + 1) (by omega) (by omega)).mpr z
            exact fin h g68 g69 (Or.inr ⟨c + 1, by omega, gs⟩)
        · exact fin (t0 := 0) h g68 g69 (Or.inl rfl)
      · exact fin (t0 := 0) h N68 N69 (Or.inl rfl)
  obtain ⟨b1, b2⟩ := key _ e10 (Or.inr ⟨0, by omega, by dsimp only; rw [g_up_self]; rfl⟩)
  dsimp only at b1 b2
  refine ⟨fun a ha => ?_, fun a ha => ?_⟩
  · dsimp only
    rw [f11 68 a (Or.inl (by decide)) (Or.inl (by decide)), b1 a ha, g_up_row (by decide)]
    exact f1 68 a (Or.inl (by decide)) (Or.inl (by decide))
  · dsimp only
    rw [f11 69 a (Or.inl (by decide)) (Or.inl (by decide)), b2 a ha, g_up_ne (Or.inr ha)]
    exact f1 69 a (Or.inl (by decide)) (Or.inl (by decide))
theorem c_clearLog {I : gM} {k : Nat} : ∃ r, fX2_clear k I = some r ∧ r k 1 = 0 ∧ r k 2 = 0 ∧ ∀ q, q ≠ k → r q = I q := by
  unfold fX2_clear
  rw [pU_n, obs, pU_n, obs]
  exact ⟨_, rfl, by rw [g_up_ne (Or.inr (by decide)), g_up_self], g_up_self, fun q h => by rw [g_up_row h, g_up_row h]⟩
theorem all_text0 {C : Nat} {I : gM} (h : InvA C I) (hC : C ≤ 3) : ∃ a b, fX8_text 0 I = some a ∧ fX9_text 0 a.2 = some b ∧ InvA C b.2 ∧ a.1 = b.1 := by
  obtain ⟨hM, hA9, hT, hS, S, m, nx, hR⟩ := id h
  obtain ⟨a, b, ea, eb, Ma, Mb, hAb, hTb, b14, b12⟩ := text0_both hT hM hA9
  obtain ⟨n, hn, t1, t2, t3⟩ := hT
  have hi : ∀ k, 62 ≤ k → a.2 k = I k := fun k hk => Ma.hi hk
  have lo : ∀ k, k < 62 → b.2 k = a.2 k := fun k hk => Mb.lo hk
  obtain ⟨b', eb', _, _, _, _, hb⟩ := n_text0K (I0 := a.2) (I := a.2) Ma.re (A9.hi Ma hA9) hn (by rw [hi 62 (by omega)]; exact t2)
  rw [eb] at eb'
  obtain rfl := Option.some.inj eb'
  rw [hi 63 (by omega)] at hb
  have es : fX8_textOfTables I = some a := by
    have h := ea
    unfold fX8_text at h
    rw [if_pos rfl] at h
    obtain ⟨s, es, h⟩ := ob h
    obtain rfl := Option.some.inj h
    exact es
  unfold fX8_textOfTables at es
  obtain ⟨r1, e1, es⟩ := ob es
  have f1 := xfX6_readTables _ _ e1
  have f1k : ∀ q, q ≠ 1 → (q < 8 ∨ 12 < q) → r1.2 q = I q := fun q h1 h2 => funext fun j => f1 q j (Or.inl h1) (Or.inl (by omega)) (Or.inl (by omega)) (Or.inl (by omega)) (by omega) (by omega) (by omega) (by omega)
  rcases c_readTables ⟨t1, hn, t3⟩ hM e1 with ⟨x, s1, s2⟩ | ⟨s1, s2⟩
  · rcases hb with ⟨z, _⟩ | ⟨x', z, q1, q2, q3, q4, q5, q6, q7, q8, q9, q10⟩
    · rw [s1] at z; cases z
    · rw [s1] at z
      obtain rfl := Option.some.inj z
      have hCT := (g_readTables ⟨t1, hn, t3⟩ e1 s1).ct
      obtain ⟨r2, e2, C2, k2, _⟩ := c_copyT (k := 3) (k1 := 8) (by omega) q3 hCT
      obtain ⟨r4, e4, p1, p2, k4⟩ := c_clearLog (I := g_up r2 1 0 0) (k := 44)
      obtain ⟨r5, e5, p3, p4, k5⟩ := c_clearPast (I := r4)
      rw [if_pos s2, e2, obs, pU_n, obs, e4, obs, e5, obs, pU_n, obs] at es
      obtain ⟨r7, e7, es⟩ := ob es
      obtain rfl := Option.some.inj es
      have g7 := c_renewK e7
      dsimp only at lo hi q8 q9 q10 ⊢
      have k37 : ∀ q, 3 ≤ q → q ≤ 7 → r7 q = r2 q := fun q h1 h2 => by rw [g7 q (by omega), g_up_row (by omega), k5 q (by omega), k4 q (by omega), g_up_row (by omega)]
      have kk : ∀ q, q ≠ 0 → q ≠ 1 → q ≠ 44 → q ≠ 48 → (q < 3 ∨ 12 < q) → (q ≤ 17 ∨ 29 ≤ q ∧ q ≠ 43) → r7 q = I q := fun q h0 h1 h2 h3 h4 h5 => by rw [g7 q h5, g_up_row h0, k5 q h3, k4 q h2, g_up_row h1, k2 q (by omega), f1k q h1 (by omega)]
      have k0 : ∀ j, j ≠ 15 → r7 0 j = I 0 j := fun j hj => by rw [g7 0 (by omega), g_up_ne (Or.inr hj), k5 0 (by omega), k4 0 (by omega), g_up_row (by omega), k2 0 (by omega), f1k 0 (by omega) (by omega)]
      have k15 : r7 0 15 = 0 := by rw [g7 0 (by omega), g_up_self]
      have k44 : ∀ j, r7 44 j = r4 44 j := fun j => by rw [g7 44 (by omega), g_up_row (by omega), k5 44 (by omega)]
      have k48 : ∀ j, r7 48 j = r5 48 j := fun j => by rw [g7 48 (by omega), g_up_row (by omega)]
      refine ⟨_, b, ea, eb, ⟨Ma.both Mb, hAb, hTb, ?_, fun _ => tOf x, 0, 0, ⟨by omega, by omega, ?_, ?_, q6⟩, fun _ _ => q3, ⟨?_, q4, ⟨0, 0, by omega, by omega, by omega, ?_, ?_, q5, fun i hi => absurd hi (by omega)⟩⟩, fun a ha => absurd ha (Nat.not_lt_zero a), ⟨?_, fun z => absurd q7 z⟩, fun j hj => ?_⟩, ?_⟩
      · exact hS.keep b14 b12 (fun k h1 h2 => by rw [lo k (by omega), kk k (by omega) (by omega) (by omega) (by omega) (by omega) (by omega)]) (fun _ _ => by rw [q8, hi 68 (by omega)]) (fun _ _ => by rw [q9, hi 69 (by omega)])
      · rw [lo 48 (by omega), k48]; exact p3
      · rw [lo 48 (by omega), k48]; exact p4
      · exact C2.cong (fun j _ => by rw [lo 3 (by omega), k37 3 (by omega) (by omega)]) (by rw [lo 4 (by omega), k37 4 (by omega) (by omega)]) (by rw [lo 5 (by omega), k37 5 (by omega) (by omega)]) (by rw [lo 6 (by omega), k37 6 (by omega) (by omega)]) (by rw [lo 7 (by omega), k37 7 (by omega) (by omega)])
      · rw [lo 44 (by omega), k44]; exact p1
      · rw [lo 44 (by omega), k44]; exact p2
      · rw [lo 0 (by omega), k15, q7]
      · rw [lo 53 (by omega), kk 53 (by omega) (by omega) (by omega) (by omega) (by omega) (by omega), q10, hi 71 (by omega)]; exact hR.refs j hj
      · rw [q1, k37 3 (by omega) (by omega), C2.1, tOf_n]
  · rcases hb with ⟨_, q1, q2, q3, q4⟩ | ⟨x', z, _⟩
    · rw [if_neg s2] at es
      obtain rfl := Option.some.inj es
      dsimp only at lo hi q3 q4 ⊢
      refine ⟨_, b, ea, eb, ⟨Ma.both Mb, hAb, hTb, ?_, S, m, nx, ?_⟩, q1.symm⟩
      · exact hS.keep b14 b12 (fun k h1 h2 => by rw [lo k (by omega), f1k k (by omega) (by omega)]) (fun _ _ => by rw [q4 68 (by omega), hi 68 (by omega)]) (fun _ _ => by rw [q4 69 (by omega), hi 69 (by omega)])
      · exact hR.keep hC (by rw [lo 0 (by omega), f1k 0 (by omega) (by omega)]) (fun k hk => by rw [lo k (by omega), f1k k (by omega) (by omega)]) (fun j hj => by rw [q3 j hj, hi 62 (by omega)]) (fun k hk => by rw [q4 k (by omega), hi k (by omega)])
    · rw [s1] at z; cases z
/-- a step told is one that can be -/
theorem pNums_ok {w : Nat → Int32} {n : Nat} {so q : Nat} {x : (Nat × Nat × List Nat) × Nat} (hs : so ≤ 2) (h : pRowed w n so q = some x) : stepOK x.1 := by
  unfold pRowed at h
  rcases oi h with ⟨_, h⟩ | ⟨_, h⟩
  · rcases oi h with ⟨c, h⟩ | ⟨c, h⟩
    · obtain ⟨p3, _, h⟩ := ob h
      obtain ⟨y, _, h⟩ := ob h
      obtain rfl := Option.some.inj h
      exact ⟨by show so < 4; omega, fun z => by have z : 2 ≤ so := z; omega⟩
    · obtain rfl := Option.some.inj h
      exact ⟨by show so < 4; omega, fun _ => rfl⟩
  · cases h
theorem pStep_ok {w : Nat → Int32} {n p : Nat} {x : (Nat × Nat × List Nat) × Nat} (h : pStep w n p = some x) : stepOK x.1 := by
  unfold pStep at h
  rcases oi h with ⟨_, h⟩ | ⟨_, h⟩
  · exact pNums_ok (by omega) h
  · rcases oi h with ⟨_, h⟩ | ⟨_, h⟩
    · exact pNums_ok (by omega) h
    · rcases oi h with ⟨_, h⟩ | ⟨_, h⟩
      · exact pNums_ok (by omega) h
      · rcases oi h with ⟨_, h⟩ | ⟨_, h⟩
        · obtain ⟨y, _, h⟩ := ob h
          obtain rfl := Option.some.inj h
          exact ⟨by show 3 < 4; omega, fun _ => rfl⟩
        · cases h
theorem pScr_ok {w : Nat → Int32} {n : Nat} : ∀ {k : Nat} {ss : List (Nat × Nat × List Nat)} {p : Nat} {x : List (Nat × Nat × List Nat)}, (∀ s, s ∈ ss → stepOK s) → pScr w n k ss p = some x → ∀ s, s ∈ x → stepOK s
  | 0, ss, p, x, _, h => by cases h
  | k + 1, ss, p, x, hs, h => by
    unfold pScr at h
    obtain ⟨y, e1, h⟩ := ob h
    have q : ∀ s, s ∈ ss ++ [y.1] → stepOK s := fun s hb => by
      rcases List.mem_append.mp hb with z | z
      · exact hs s z
      · rw [List.mem_singleton.mp z]; exact pStep_ok e1
    rcases oi h with ⟨_, h⟩ | ⟨_, h⟩
    · exact pScr_ok q h
    · rcases oi h with ⟨_, h⟩ | ⟨_, h⟩
      · obtain rfl := Option.some.inj h; exact q
      · cases h
theorem L60' : (60 : Int32) = nI 60 := rfl
theorem all_text1 {C : Nat} {I : gM} (h : InvA C I) (hC : C ≤ 3) : ∃ a b, fX8_text 1 I = some a ∧ fX9_text 1 a.2 = some b ∧ InvA C b.2 ∧ a.1 = b.1 := by
  obtain ⟨hM, hA9, hT, hS, S, m, nx, hR⟩ := id h
  obtain ⟨a, b, ea, eb, eab, Ma, Mb, hAb, hTb, b14⟩ := text1_both hT hM hA9 hS.1
  obtain ⟨n, hn, t1, t2, t3⟩ := hT
  have hi : ∀ k, 62 ≤ k → a.2 k = I k := fun k hk => Ma.hi hk
  have lo : ∀ k, k < 62 → b.2 k = a.2 k := fun k hk => Mb.lo hk
  obtain ⟨b', eb', _, _, _, hb⟩ := n_text1 (I0 := a.2) (I := a.2) Ma.re (A9.hi Ma hA9)
  rw [eb] at eb'
  obtain rfl := Option.some.inj eb'
  obtain ⟨sc, hsc, esc⟩ := hM.n (k := 62) (j := 12) (hi := 4) rfl
  rw [hi 62 (by omega)] at hb
  have es : fX8_textOfScript I = some a := by
    have h := ea
    unfold fX8_text at h
    rw [if_neg (by decide), if_pos rfl] at h
    obtain ⟨s, es, h⟩ := ob h
    obtain rfl := Option.some.inj h
    exact es
  unfold fX8_textOfScript at es
  rw [hS.1] at es
  -- the reference's frames
  have h9 : fX9_text 1 a.2 = bX9_text_22 1 a.2 := by
    unfold fX9_text
    rw [if_neg (by decide)]
  have eb0 := eb
  rw [h9] at eb
  unfold bX9_text_22 at eb
  rw [if_pos rfl, hi 62 (by omega)] at eb
  have keepR : (∀ k, k ≠ 1 → (k < 51 ∨ 61 < k) → k ≠ 0 → k ≠ 62 → k ≠ 68 → k ≠ 69 → b.2 k = I k) → b.2 0 15 = I 0 15 → b.2 53 = I 53 → (∀ j, j ≠ 2 → j ≠ 3 → j ≠ 4 → j ≠ 12 → b.2 62 j = I 62 j) → InvR C b.2 := by
    intro g1 g2 g3 g4
    exact ⟨S, m, nx, hR.keep hC g2 (fun k hk => by
      by_cases c : k = 53
      · rw [c]; exact g3
      · exact g1 k (by omega) (by omega) (by omega) (by omega) (by omega) (by omega)) (fun j hj => g4 j (by omega) (by omega) (by omega) (by omega)) (fun k hk => g1 k (by omega) (by omega) (by omega) (by omega) (by omega) (by omega))⟩
  by_cases c4 : (4 : Int32) ≤ I 62 12
  · rw [if_pos c4] at es eb
    obtain rfl := Option.some.inj es
    obtain rfl := Option.some.inj eb
    exact ⟨_, _, ea, by rw [h9]; unfold bX9_text_22; rw [if_pos rfl, hi 62 (by omega), if_pos c4], h, rfl⟩
  · have l4 : sc < 4 := by
      rw [esc] at c4
      have := mt (nI_leI (a := 4) (b := sc) (by omega) (by omega)).mpr c4
      omega
    rw [if_neg c4] at es eb
    obtain ⟨r1, e1, es⟩ := ob es
    have f1 := xfX6_readScript _ _ e1
    have f1k : ∀ q, q ≠ 1 → q ≠ 51 → q ≠ 52 → r1.2 q = I q := fun q h1 h2 h3 => funext fun j => f1 q j (Or.inl h1) (Or.inl h2) h3
    obtain ⟨q, eq, hq⟩ := n_readScript (I := a.2) (s := sc) (by omega) hn (by rw [hi 62 (by omega)]; exact t2)
    have lq := lo_readScript (by omega) eq
    have fq := xfX9_readScript _ _ eq
    have fqk : ∀ k, k ≠ 62 → k ≠ 68 → k ≠ 69 → q.2 k = a.2 k := fun k h1 h2 h3 => funext fun j => fq k j (Or.inl h1) (Or.inl h1) h3 h2
    rw [hi 63 (by omega)] at hq
    rw [esc, eq, obs] at eb
    rcases c_readScript ⟨t1, hn, t3⟩ hM e1 with ⟨x, s1, s2, s3⟩ | ⟨s1, s2⟩
    · rcases hq with ⟨z, _⟩ | ⟨x', z, q1, q2, q3, q4⟩
      · rw [s1] at z; cases z
      · rw [s1] at z
        obtain rfl := Option.some.inj z
        rw [if_pos s2, f1k 0 (by decide) (by decide) (by decide), hS.1, esc, rA_n l4, obs] at es
        obtain ⟨r3, e3, es⟩ := ob es
        have f3 := xfX4_copyFrom _ _ _ e3
        have f3k : ∀ k, k ≠ 54 + 2 * sc → k ≠ 54 + 2 * sc + 1 → r3 k = r1.2 k := fun k h1 h2 => funext fun j => f3 k j (Or.inl h1) h2
        have hc : ScK r3 (54 + 2 * sc) x := by
          unfold fX4_copyFrom at e3
          rw [pU_n, obs, L0, L60'] at e3
          obtain ⟨r', e', g1, g2⟩ := cp_n (I := g_up r1.2 (54 + 2 * sc) 0 (r1.2 51 0)) (k0 := 51 + 1) (n0 := 60) (k1 := 54 + 2 * sc + 1) (n1 := 60) (m := 60) (by omega) (by omega) (by omega)
          rw [e', obs] at e3
          obtain rfl := Option.some.inj e3
          obtain ⟨y1, y2, y3⟩ := s3
          refine ⟨by rw [g1 _ (by omega), g_up_self]; exact y1, y2, fun a ha => ?_⟩
          rw [g2, if_pos (by omega), g_up_row (by omega)]; exact y3 a ha
        rw [pU_n, obs, pU_n, obs] at es
        have haE := (congrArg Prod.snd (Option.some.inj es)).symm
        rw [if_pos q1, pU_n, obs, pU_n, obs] at eb
        have hbE := (congrArg Prod.snd (Option.some.inj eb)).symm
        dsimp only at haE hbE
        have eq12 : g_up q.2 62 2 0 62 12 = nI sc := by
          rw [g_up_ne (Or.inr (by decide)), fq 62 12 (Or.inr (by decide)) (Or.inr (by decide)) (by decide) (by decide), hi 62 (by omega), esc]
        have Bk : ∀ k, k ≠ 62 → b.2 k = q.2 k := fun k hk => by rw [hbE, g_up_row hk, g_up_row hk]
        have B12 : b.2 62 12 = nI (sc + 1) := by rw [hbE, g_up_self, eq12, nI_1]
        have Ak : ∀ k, k ≠ 0 → k ≠ 1 → a.2 k = r3 k := fun k h0 h1 => by rw [haE, g_up_row h0, g_up_row h1]
        have A0 : ∀ j, j ≠ 14 → a.2 0 j = r3 0 j := fun j hj => by rw [haE, g_up_ne (Or.inr hj), g_up_row (by decide)]
        refine ⟨a, b, ea, eb0, ⟨Ma.both Mb, hAb, hTb, ⟨b14, fun s hs hs2 => ?_⟩, keepR (fun k h1 h2 h3 h4 h5 h6 => ?_) ?_ ?_ (fun j h1 h2 h3 h4 => ?_)⟩, eab⟩
        · rw [B12, nIt (by omega)] at hs2
          by_cases d : s = sc
          · subst d
            refine ⟨x, ?_, ?_, fun a ha => ?_, fun i hi => ?_⟩
            · obtain ⟨y1, y2, y3⟩ := hc
              exact ⟨by rw [lo _ (by omega), Ak _ (by omega) (by omega)]; exact y1, y2, fun a ha => by rw [lo _ (by omega), Ak _ (by omega) (by omega)]; exact y3 a ha⟩
            · rw [Bk 69 (by decide)]; exact q2
            · have hx := s3.2.1
              rw [Bk 68 (by decide), q4, if_pos (by omega), Nat.add_sub_cancel_left]
            · exact pScr_ok (fun s hs => by cases hs) s1 _ (by rw [List.getD_eq_getElem?_getD, List.getElem?_eq_getElem hi]; exact List.getElem_mem hi)
          · obtain ⟨ss, ⟨y1, y2, y3⟩, y4, y5, y6⟩ := hS.2 s hs (by rw [esc, nIt (by omega)]; omega)
            refine ⟨ss, ⟨?_, y2, fun a ha => ?_⟩, ?_, fun a ha => ?_, y6⟩
            · rw [lo _ (by omega), Ak _ (by omega) (by omega), f3k _ (by omega) (by omega), f1k _ (by omega) (by omega) (by omega)]; exact y1
            · rw [lo _ (by omega), Ak _ (by omega) (by omega), f3k _ (by omega) (by omega), f1k _ (by omega) (by omega) (by omega)]; exact y3 a ha
            · rw [Bk 69 (by decide), lq.2 s d, hi 69 (by omega)]; exact y4
            · rw [Bk 68 (by decide), lq.1 _ (by omega), hi 68 (by omega)]; exact y5 a ha
        · rw [Bk k h4, fqk k h4 h5 h6]
          by_cases d : k < 62
          · rw [Ak k h3 h1, f3k k (by omega) (by omega), f1k k h1 (by omega) (by omega)]
          · exact hi k (by omega)
        · rw [lo 0 (by omega), A0 15 (by decide), f3k 0 (by omega) (by omega), f1k 0 (by decide) (by decide) (by decide)]
        · rw [lo 53 (by omega), Ak 53 (by decide) (by decide), f3k 53 (by omega) (by omega), f1k 53 (by decide) (by decide) (by decide)]
        · rw [hbE, g_up_ne (Or.inr h4), g_up_ne (Or.inr h1), fq 62 j (Or.inr h2) (Or.inr h3) (by decide) (by decide), hi 62 (by omega)]
    · rcases hq with ⟨_, q1⟩ | ⟨x', z, _⟩
      · rw [if_neg s2] at es
        have haE := (congrArg Prod.snd (Option.some.inj es)).symm
        rw [if_neg q1] at eb
        have hbE := (congrArg Prod.snd (Option.some.inj eb)).symm
        dsimp only at haE hbE
        have g12 : b.2 62 12 = I 62 12 := by rw [hbE, fq 62 12 (Or.inr (by decide)) (Or.inr (by decide)) (by decide) (by decide), hi 62 (by omega)]
        refine ⟨a, b, ea, eb0, ⟨Ma.both Mb, hAb, hTb, ⟨b14, fun s hs hs2 => ?_⟩, keepR (fun k h1 h2 h3 h4 h5 h6 => ?_) ?_ ?_ (fun j h1 h2 h3 h4 => ?_)⟩, eab⟩
        · rw [g12, esc, nIt (by omega)] at hs2
          obtain ⟨ss, ⟨y1, y2, y3⟩, y4, y5, y6⟩ := hS.2 s hs (by rw [esc, nIt (by omega)]; omega)
          refine ⟨ss, ⟨?_, y2, fun a ha => ?_⟩, ?_, fun a ha => ?_, y6⟩
          · rw [lo _ (by omega), haE, f1k _ (by omega) (by omega) (by omega)]; exact y1
          · rw [lo _ (by omega), haE, f1k _ (by omega) (by omega) (by omega)]; exact y3 a ha
          · rw [hbE, lq.2 s (by omega), hi 69 (by omega)]; exact y4
          · rw [hbE, lq.1 _ (by omega), hi 68 (by omega)]; exact y5 a ha
        · rw [hbE, fqk k h4 h5 h6]
          by_cases d : k < 62
          · rw [haE]; exact f1k k h1 (by omega) (by omega)
          · exact hi k (by omega)
        · rw [lo 0 (by omega), haE, f1k 0 (by decide) (by decide) (by decide)]
        · rw [lo 53 (by omega), haE, f1k 53 (by decide) (by decide) (by decide)]
        · rw [hbE, fq 62 j (Or.inr h2) (Or.inr h3) (by decide) (by decide), hi 62 (by omega)]
      · rw [s1] at z; cases z
theorem all_text {C : Nat} {I : gM} (h : InvA C I) (hC : C ≤ 3) (v : Int32) : ∃ a b, fX8_text v I = some a ∧ fX9_text v a.2 = some b ∧ InvA C b.2 ∧ a.1 = b.1 := by
  by_cases c0 : v = 0
  · subst c0; exact all_text0 h hC
  · by_cases c1 : v = 1
    · subst c1; exact all_text1 h hC
    · have e : fX8_text v I = some (-1, I) := by
        unfold fX8_text
        rw [if_neg c0, if_neg c1]
      exact ⟨_, _, e, n_textN c0 c1, h, rfl⟩
