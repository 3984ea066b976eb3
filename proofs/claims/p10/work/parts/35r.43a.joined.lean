/-! the class's join is the join of its tables -/
theorem je : JE := by
  intro A I0 I0' I8 r8 I9 r9 hW hn _ hC hz e8 hM9 hR e9
  obtain ⟨M', R', J, f1, f2, o, _⟩ := find_two (I0 := I0) (k := 18) (k1 := 3) (by omega) hM9 hW hn hC hR hz hW.2.2.2.1
  unfold fX8_renew at e8
  rw [hC.2.2.1, f1, obs, pU_n, obs] at e8
  obtain rfl := Option.some.inj e8
  unfold fX9_joinsNow at e9
  rw [show (1 : Int32) = nI 1 from rfl, rI_n (by omega) (by omega), obs, hR.2.2.1, f2, obs] at e9
  obtain rfl := Option.some.inj e9
  rw [g_up_row (by decide), o.1, o.2.1]
def JCur (I : gM) : Prop := ∃ I8 M', (∀ q, 3 ≤ q ∧ q ≤ 7 → I8 q = I q) ∧ I8 22 0 = 0 ∧ fX1_findBy 18 3 (I 3 2) I8 = some M' ∧ ∀ q, 18 ≤ q ∧ q ≤ 28 → I q = M' q
def WCur (I : gM) : Prop := I 43 0 = 0 ∨ ∃ I8 M', (∀ q, 3 ≤ q ∧ q ≤ 7 → I8 q = I q) ∧ I8 33 0 = 0 ∧ I8 43 0 = 0 ∧ fX7_weigh 3 29 I8 = some M' ∧ ∀ j, I 43 j = M' 43 j
def JX (I : gM) : Prop := I 22 0 = 0 ∧ I 33 0 = 0 ∧ (I 3 0 ≠ 0 → JCur I ∧ WCur I)
theorem JX.congW {I r : gM} (h : JX I) (f : ∀ q, (3 ≤ q ∧ q ≤ 7) ∨ (18 ≤ q ∧ q ≤ 28) → r q = I q) (z : r 33 0 = 0) (g : WCur r) : JX r := by
  refine ⟨by rw [f 22 (by omega)]; exact h.1, z, fun n => ⟨?_, g⟩⟩
  rw [f 3 (by omega)] at n
  obtain ⟨I8, M', a1, a2, a3, a4⟩ := (h.2.2 n).1
  exact ⟨I8, M', fun q hq => (a1 q hq).trans (f q (by omega)).symm, a2, by rw [f 3 (by omega)]; exact a3, fun q hq => (f q (by omega)).trans (a4 q hq)⟩
theorem JX.cong {I r : gM} (h : JX I) (f : ∀ q, (3 ≤ q ∧ q ≤ 7) ∨ (18 ≤ q ∧ q ≤ 28) ∨ q = 43 → r q = I q) (z : r 33 0 = 0) : JX r := by
  refine ⟨by rw [f 22 (by omega)]; exact h.1, z, fun n => ?_⟩
  rw [f 3 (by omega)] at n
  obtain ⟨⟨I8, M', a1, a2, a3, a4⟩, g⟩ := h.2.2 n
  refine ⟨⟨I8, M', fun q hq => (a1 q hq).trans (f q (by omega)).symm, a2, by rw [f 3 (by omega)]; exact a3, fun q hq => (f q (by omega)).trans (a4 q hq)⟩, ?_⟩
  rcases g with g | ⟨I9, N, b1, b2, b3, b4, b5⟩
  · exact Or.inl (by rw [f 43 (by omega)]; exact g)
  · exact Or.inr ⟨I9, N, fun q hq => (b1 q hq).trans (f q (by omega)).symm, b2, b3, b4, fun j => by rw [f 43 (by omega)]; exact b5 j⟩
theorem JX.congA {I r : gM} (h : JX I) (f : ∀ q, (3 ≤ q ∧ q ≤ 7) ∨ (18 ≤ q ∧ q ≤ 28) ∨ q = 33 ∨ q = 43 → r q = I q) : JX r := h.cong (fun q hq => f q (by omega)) (by rw [f 33 (by omega)]; exact h.2.1)
theorem jX_renew {I r : gM} (h0 : I 22 0 = 0) (h1 : I 33 0 = 0) (e : fX8_renew I = some r) : JX r := by
  have e' := e
  unfold fX8_renew at e'
  obtain ⟨M', e1, e'⟩ := ob e'
  rw [pU_n, obs] at e'
  obtain rfl := Option.some.inj e'
  have z := fz_findBy e1
  have fr : ∀ q, q < 18 ∨ 28 < q → M' q = I q := fun q hq => zfX1_findBy _ _ _ _ e1 q (by omega) (by omega) (by omega) (by omega) (by omega) (by omega) (by omega) (by omega) (by omega) (by omega) (by omega)
  refine ⟨by rw [g_up_row (by decide)]; exact z.trans h0, by rw [g_up_row (by decide), fr 33 (by omega)]; exact h1, fun _ => ⟨⟨I, M', fun q hq => by rw [g_up_row (by omega), fr q (by omega)], h0, by rw [g_up_row (by decide), fr 3 (by omega)]; exact e1, fun q hq => g_up_row (by omega)⟩, Or.inl g_up_self⟩⟩
theorem jX_attempt {s a x y z : Int32} {I : gM} {r : Int32 × gM} (h : JX I) (e : fX8_attempt s a x y z I = some r) : JX r.2 := by
  have key : ∀ {v7 t0 t1}, bX8_attempt_56 s a v7 t0 t1 I = some r → JX r.2 := fun {v7 t0 t1} e => by
    unfold bX8_attempt_56 at e
    obtain ⟨r3, e3, e⟩ := ob e
    obtain ⟨r4, e4, e⟩ := ob e
    obtain ⟨r5, e5, e⟩ := ob e
    obtain ⟨r6, e6, e⟩ := ob e
    obtain rfl := Option.some.inj e
    have f3 : ∀ q, 18 ≤ q ∧ q ≤ 33 → r4 q = I q := fun q hq => (zfX5_change _ _ _ _ _ e4 q (by omega) (by omega) (by omega)).trans (zfX3_add _ _ _ _ e3 q (by omega) (by omega))
    have f6 : ∀ q, q < 44 → r6 q = r5 q := fun q hq => zfX2_add _ _ _ _ _ e6 q (by omega) (by omega)
    exact (jX_renew (by rw [f3 22 (by omega)]; exact h.1) (by rw [f3 33 (by omega)]; exact h.2.1) e5).congA (fun q hq => f6 q (by omega))
  unfold fX8_attempt at e
  obtain ⟨r1, _, e⟩ := ob e
  rcases oi e with ⟨_, e⟩ | ⟨_, e⟩
  · obtain ⟨r2, _, e⟩ := ob e
    rcases oi e with ⟨_, e⟩ | ⟨_, e⟩
    · exact key e
    · exact key e
  · obtain rfl := Option.some.inj e
    exact h
theorem jX_isDone {s a x y z : Int32} {I : gM} {r : Int32 × gM} (h : JX I) (e : fX8_isDone s a x y z I = some r) : JX r.2 := by
  unfold fX8_isDone at e
  obtain ⟨r1, e1, e⟩ := ob e
  have j1 := jX_attempt h e1
  have key : ∀ {v M}, bX8_isDone_35 v M = some r → r.2 = M := fun {v M} e => by
    unfold bX8_isDone_35 at e
    rcases oi e with ⟨_, e⟩ | ⟨_, e⟩
    · obtain rfl := Option.some.inj e; rfl
    · obtain rfl := Option.some.inj e; rfl
  rcases oi e with ⟨_, e⟩ | ⟨_, e⟩
  · rw [key e]; exact j1
  · rcases oi e with ⟨_, e⟩ | ⟨_, e⟩
    · rw [key e]; exact j1
    · obtain ⟨u, _, e⟩ := ob e
      obtain ⟨M, e2, e⟩ := ob e
      rw [key e]
      exact j1.congA (fun q hq => by rw [← (wI_some e2).2.2]; exact g_up_row (by omega))
theorem jX_put {I : gM} {v1 v2 v3 v4 : Int32} {r : Int32 × gM} (h : JX I) (e : fX8_put v1 v2 v3 v4 I = some r) : JX r.2 := by
  unfold fX8_put at e
  obtain ⟨r1, e1, e⟩ := ob e
  have j := jX_isDone h e1
  rcases oi e with ⟨_, e⟩ | ⟨_, e⟩
  · obtain rfl := Option.some.inj e; exact j
  · obtain ⟨u, _, e⟩ := ob e; obtain rfl := Option.some.inj e; exact j
theorem jX_take {I : gM} {v1 v2 v3 v4 : Int32} {r : Int32 × gM} (h : JX I) (e : fX8_take v1 v2 v3 v4 I = some r) : JX r.2 := by
  unfold fX8_take at e
  obtain ⟨r1, e1, e⟩ := ob e
  have j := jX_isDone h e1
  rcases oi e with ⟨_, e⟩ | ⟨_, e⟩
  · obtain rfl := Option.some.inj e; exact j
  · obtain ⟨u, _, e⟩ := ob e; obtain rfl := Option.some.inj e; exact j
theorem jX_use {I : gM} {v1 : Int32} {r : Int32 × gM} (h : JX I) (e : fX8_use v1 I = some r) : JX r.2 := by
  unfold fX8_use at e
  obtain ⟨r1, e1, e⟩ := ob e
  have j := jX_isDone h e1
  rcases oi e with ⟨_, e⟩ | ⟨_, e⟩
  · obtain rfl := Option.some.inj e; exact j
  · obtain ⟨u, _, e⟩ := ob e
    rcases oi e with ⟨_, e⟩ | ⟨_, e⟩
    · obtain rfl := Option.some.inj e; exact j
    · obtain rfl := Option.some.inj e; exact j
theorem jX_order {I : gM} {v1 : Int32} {r : Int32 × gM} (h : JX I) (e : fX8_order v1 I = some r) : JX r.2 := by
  unfold fX8_order at e
  obtain ⟨r1, e1, e⟩ := ob e
  have j := jX_isDone h e1
  rcases oi e with ⟨_, e⟩ | ⟨_, e⟩
  · obtain rfl := Option.some.inj e; exact j
  · obtain rfl := Option.some.inj e; exact j
theorem jX_undo {I : gM} {r : Int32 × gM} (h : JX I) (e : fX8_undo I = some r) : JX r.2 := by
  unfold fX8_undo at e
  rcases oi e with ⟨_, e⟩ | ⟨_, e⟩
  · obtain rfl := Option.some.inj e; exact h
  · obtain ⟨r1, e1, e⟩ := ob e
    obtain ⟨r2, e2, e⟩ := ob e
    obtain ⟨r3, e3, e⟩ := ob e
    obtain ⟨r4, e4, e⟩ := ob e
    obtain ⟨r5, e5, e⟩ := ob e
    obtain ⟨r6, e6, e⟩ := ob e
    obtain ⟨r7, e7, e⟩ := ob e
    obtain rfl := Option.some.inj e
    have f : ∀ q, 18 ≤ q ∧ q ≤ 33 → r6 q = I q := fun q hq => (zfX2_dropLatest _ _ e6 q (by omega)).trans ((zfX5_changeBack _ _ _ _ _ e5 q (by omega) (by omega) (by omega)).trans (zfX3_dropLatest _ e1 q (by omega)))
    exact jX_renew (by rw [f 22 (by omega)]; exact h.1) (by rw [f 33 (by omega)]; exact h.2.1) e7
theorem jX_back {I : gM} {r : Int32 × gM} (h : JX I) (e : fX8_back I = some r) : JX r.2 := by
  unfold fX8_back at e
  rcases oi e with ⟨_, e⟩ | ⟨_, e⟩
  · obtain rfl := Option.some.inj e; exact h
  · obtain ⟨r1, e1, e⟩ := ob e
    obtain ⟨r2, e2, e⟩ := ob e
    obtain ⟨r3, e3, e⟩ := ob e
    obtain ⟨r4, e4, e⟩ := ob e
    obtain rfl := Option.some.inj e
    have f : ∀ q, 18 ≤ q ∧ q ≤ 33 → r3 q = I q := fun q hq => (zfX3_clear _ e3 q (by omega)).trans ((zfX2_copyFrom _ _ _ e2 q (by omega) (by omega)).trans (zfX5_copyFrom _ _ _ e1 q (by omega) (by omega) (by omega) (by omega) (by omega)))
    exact jX_renew (by rw [f 22 (by omega)]; exact h.1) (by rw [f 33 (by omega)]; exact h.2.1) e4
theorem jX_text {I : gM} {v1 : Int32} {r : Int32 × gM} (h : JX I) (e : fX8_text v1 I = some r) : JX r.2 := by
  unfold fX8_text at e
  rcases oi e with ⟨_, e⟩ | ⟨_, e⟩
  · obtain ⟨p, ep, e⟩ := ob e
    obtain rfl := Option.some.inj e
    show JX p.2
    unfold fX8_textOfTables at ep
    obtain ⟨r1, e1, e⟩ := ob ep
    rcases oi e with ⟨_, e⟩ | ⟨_, e⟩
    · obtain ⟨r2, e2, e⟩ := ob e
      obtain ⟨r3, e3, e⟩ := ob e
      obtain ⟨r4, e4, e⟩ := ob e
      obtain ⟨r5, e5, e⟩ := ob e
      obtain ⟨r6, e6, e⟩ := ob e
      obtain ⟨r7, e7, e⟩ := ob e
      obtain rfl := Option.some.inj e
      have f : ∀ q, 18 ≤ q ∧ q ≤ 33 → r6 q = I q := fun q hq => by
        rw [pU_n] at e3 e6
        obtain rfl := Option.some.inj e3
        obtain rfl := Option.some.inj e6
        rw [g_up_row (by omega), zfX3_clear _ e5 q (by omega), zfX2_clear _ _ e4 q (by omega), g_up_row (by omega), zfX5_copyFrom _ _ _ e2 q (by omega) (by omega) (by omega) (by omega) (by omega), zfX6_readTables _ _ e1 q (by omega) (by omega) (by omega) (by omega) (by omega) (by omega)]
      exact jX_renew (by rw [f 22 (by omega)]; exact h.1) (by rw [f 33 (by omega)]; exact h.2.1) e7
    · obtain rfl := Option.some.inj e
      exact h.congA (fun q hq => zfX6_readTables _ _ e1 q (by omega) (by omega) (by omega) (by omega) (by omega) (by omega))
  · rcases oi e with ⟨_, e⟩ | ⟨_, e⟩
    · obtain ⟨p, ep, e⟩ := ob e
      obtain rfl := Option.some.inj e
      exact h.congA (fun q hq => zfX8_textOfScript _ ep q (by omega) (by omega) (by omega) (by omega) (by omega) (by omega) (by omega) (by omega) (by omega) (by omega) (by omega) (by omega))
    · obtain rfl := Option.some.inj e
      exact h
theorem jX_goOneWay {I : gM} {J : gN} {r : gM × gN} (h : JX I) (e : fX8_goOneWay I J = some r) : JX r.1 := by
  have k172 : ∀ {v2 v4 v5 t0 K}, bX8_goOneWay_172 v2 v4 v5 t0 I K = some r → JX r.1 := fun e => by
    unfold bX8_goOneWay_172 at e
    obtain ⟨a, ea, e⟩ := ob e
    obtain rfl := Option.some.inj e
    exact jX_attempt h ea
  have k155 : ∀ {v2 v3 v4 t0 K}, bX8_goOneWay_155 v2 v3 v4 t0 I K = some r → JX r.1 := fun e => by
    unfold bX8_goOneWay_155 at e
    rcases oi e with ⟨_, e⟩ | ⟨_, e⟩
    · exact k172 e
    · obtain ⟨a, _, e⟩ := ob e
      exact k172 e
  have k138 : ∀ {v2 v3 t0 K}, bX8_goOneWay_138 v2 v3 t0 I K = some r → JX r.1 := fun e => by
    unfold bX8_goOneWay_138 at e
    rcases oi e with ⟨_, e⟩ | ⟨_, e⟩
    · exact k155 e
    · obtain ⟨a, _, e⟩ := ob e
      exact k155 e
  unfold fX8_goOneWay at e
  obtain ⟨r1, _, e⟩ := ob e
  rcases oi e with ⟨_, e⟩ | ⟨_, e⟩
  · obtain ⟨r2, _, e⟩ := ob e
    obtain ⟨r3, e3, e⟩ := ob e
    obtain rfl := Option.some.inj e
    exact jX_attempt h e3
  · obtain ⟨r4, _, e⟩ := ob e
    rcases oi e with ⟨_, e⟩ | ⟨_, e⟩
    · obtain ⟨r5, e5, e⟩ := ob e
      obtain rfl := Option.some.inj e
      exact jX_attempt h e5
    · rcases oi e with ⟨_, e⟩ | ⟨_, e⟩
      · obtain ⟨r6, _, e⟩ := ob e
        rcases oi e with ⟨_, e⟩ | ⟨_, e⟩
        · obtain rfl := Option.some.inj e
          exact h
        · obtain ⟨u, _, e⟩ := ob e
          rcases oi e with ⟨_, e⟩ | ⟨_, e⟩
          · exact k138 e
          · obtain ⟨a, _, e⟩ := ob e
            exact k138 e
      · obtain ⟨_, _, e⟩ := ob e
        obtain ⟨_, _, e⟩ := ob e
        obtain ⟨_, _, e⟩ := ob e
        obtain ⟨_, _, e⟩ := ob e
        obtain ⟨r16, e16, e⟩ := ob e
        obtain rfl := Option.some.inj e
        exact jX_attempt h e16
theorem jX_ways {I : gM} {J : gN} {v1 : Int32} {v2 : Int64} {r : Int32 × gM × gN} (h : JX I) (e : fX8_ways v1 v2 I J = some r) : JX r.2.1 := by
  unfold fX8_ways at e
  rcases oi e with ⟨_, e⟩ | ⟨_, e⟩
  · obtain rfl := Option.some.inj e; exact h
  · rcases oi e with ⟨_, e⟩ | ⟨_, e⟩
    · obtain rfl := Option.some.inj e; exact h
    · rcases oi e with ⟨_, e⟩ | ⟨_, e⟩
      · obtain ⟨J1, _, e⟩ := ob e
        obtain ⟨w3, ew, e⟩ := ob e
        obtain rfl := Option.some.inj e
        have key : ∀ s, lX8_ways_31 v1 s = some w3 → JX s.2.1 → JX w3.1 := by
          unfold lX8_ways_31
          refine itO_ind (P := fun s : Int32 × gM × gN => JX s.2.1 → JX w3.1) (fun s y e hl hr => ?_)
          intro hs
          rcases oi e with ⟨_, e⟩ | ⟨_, e⟩
          · obtain rfl := Option.some.inj e
            have hh := hr _ rfl
            subst hh; exact hs
          · obtain ⟨r2, e2, e⟩ := ob e
            obtain rfl := Option.some.inj e
            exact hl _ rfl (jX_goOneWay hs e2)
        exact key _ ew h
      · obtain rfl := Option.some.inj e; exact h
theorem jX_perform {I : gM} {v1 : Int32} {r : Int32 × gM} (h : JX I) (e : fX8_perform v1 I = some r) : JX r.2 := by
  unfold fX8_perform at e
  obtain ⟨r1, _, e⟩ := ob e
  rcases oi e with ⟨_, e⟩ | ⟨_, e⟩
  · obtain rfl := Option.some.inj e; exact h
  · rcases oi e with ⟨_, e⟩ | ⟨_, e⟩
    · obtain rfl := Option.some.inj e; exact h
    · obtain ⟨k2, _, e⟩ := ob e
      obtain ⟨w9, ew, e⟩ := ob e
      have key : ∀ s, lX8_perform_29 k2 s = some w9 → JX s.2 → JX (Sum.elim (fun p : Int32 × gM => p.2) (fun q => q) w9) := by
        unfold lX8_perform_29
        refine itO_ind (P := fun s : Int32 × gM => JX s.2 → JX (Sum.elim (fun p : Int32 × gM => p.2) (fun q => q) w9)) (fun s y e hl hr => ?_)
        intro hs
        rcases oi e with ⟨_, e⟩ | ⟨_, e⟩
        · obtain rfl := Option.some.inj e
          have hh := hr _ rfl
          subst hh; exact hs
        · obtain ⟨_, _, e⟩ := ob e
          obtain ⟨_, _, e⟩ := ob e
          obtain ⟨_, _, e⟩ := ob e
          obtain ⟨_, _, e⟩ := ob e
          obtain ⟨_, _, e⟩ := ob e
          obtain ⟨r8, e8, e⟩ := ob e
          have j := jX_attempt hs e8
          rcases oi e with ⟨_, e⟩ | ⟨_, e⟩
          · obtain rfl := Option.some.inj e
            exact hl _ rfl j
          · obtain rfl := Option.some.inj e
            have hh := hr _ rfl
            subst hh; exact j
      have q := key _ ew h
      cases w9 with
      | inl p =>
        obtain rfl := Option.some.inj e
        exact q
      | inr p =>
        obtain rfl := Option.some.inj e
        exact q
theorem z_weigh {I r : gM} (h : I 33 0 = 0) (e : fX7_weigh 3 29 I = some r) : r 33 0 = 0 := by
  unfold fX7_weigh at e
  rcases oi e with ⟨_, e⟩ | ⟨_, e⟩
  · obtain ⟨w5, ew, e⟩ := ob e
    rw [pU_n] at e
    obtain rfl := Option.some.inj e
    rw [g_up_row (by decide)]
    have key : ∀ s, lX7_weigh_10 3 29 s = some w5 → s.2 33 0 = 0 → w5 33 0 = 0 := by
      unfold lX7_weigh_10
      refine itO_ind (P := fun s : Int32 × gM => s.2 33 0 = 0 → w5 33 0 = 0) (fun s y e hl hr => ?_)
      intro hs
      have k73 : ∀ {v M}, bX7_weigh_73 v M = some y → M 33 0 = 0 → w5 33 0 = 0 := fun e hm => by
        unfold bX7_weigh_73 at e
        obtain rfl := Option.some.inj e
        exact hl _ rfl hm
      have k65 : ∀ {v M}, bX7_weigh_65 29 v M = some y → M 33 0 = 0 → w5 33 0 = 0 := fun e hm => by
        unfold bX7_weigh_65 at e
        rw [pU_n] at e
        obtain ⟨_, e1, e⟩ := ob e
        obtain rfl := Option.some.inj e1
        exact k73 e (by rw [g_up_row (by decide)]; exact hm)
      have k50 : ∀ {v M}, bX7_weigh_50 29 v M = some y → M 33 0 = 0 → w5 33 0 = 0 := fun e hm => by
        unfold bX7_weigh_50 at e
        rcases oi e with ⟨_, e⟩ | ⟨_, e⟩
        · exact k65 e hm
        · rcases oi e with ⟨_, e⟩ | ⟨_, e⟩
          · exact k73 e hm
          · exact k65 e hm
      have k37 : ∀ {v M}, bX7_weigh_37 29 v M = some y → M 33 0 = 0 → w5 33 0 = 0 := fun e hm => by
        unfold bX7_weigh_37 at e
        obtain ⟨_, e1, e⟩ := ob e
        obtain ⟨_, e2, e⟩ := ob e
        rw [pU_n] at e1 e2
        obtain rfl := Option.some.inj e1
        obtain rfl := Option.some.inj e2
        exact k50 e (by rw [g_up_row (by decide), g_up_row (by decide)]; exact hm)
      rcases oi e with ⟨_, e⟩ | ⟨_, e⟩
      · obtain rfl := Option.some.inj e
        have hh := hr _ rfl
        subst hh; exact hs
      · obtain ⟨r1, e1, e⟩ := ob e
        have z1 : r1 33 0 = 0 := (fz_findBy e1).trans hs
        rcases oi e with ⟨_, e⟩ | ⟨_, e⟩
        · exact k37 e z1
        · rcases oi e with ⟨_, e⟩ | ⟨_, e⟩
          · exact k50 e z1
          · exact k37 e z1
    exact key _ ew h
  · obtain rfl := Option.some.inj e; exact h
theorem jX_weigh {I r : gM} (h : JX I) (n : I 3 0 ≠ 0) (e : fX7_weigh 3 29 I = some r) : JX r := by
  have f : ∀ q, q < 29 → r q = I q := fun q hq => zfX7_weigh _ _ _ e q (by omega) (by omega) (by omega) (by omega) (by omega) (by omega) (by omega) (by omega) (by omega) (by omega) (by omega) (by omega)
  refine h.congW (fun q hq => f q (by omega)) (z_weigh h.2.1 e) ?_
  have e' := e
  unfold fX7_weigh at e'
  rcases oi e' with ⟨c, _⟩ | ⟨c, e'⟩
  · exact Or.inr ⟨I, r, fun q hq => (f q (by omega)).symm, h.2.1, c, e, fun _ => rfl⟩
  · obtain rfl := Option.some.inj e'
    exact (h.2.2 n).2
theorem jX_best {I : gM} {v1 : Int32} {r : Int32 × gM} (h : JX I) (e : fX8_best v1 I = some r) : JX r.2 := by
  unfold fX8_best at e
  rcases oi e with ⟨_, e⟩ | ⟨n, e⟩
  · obtain rfl := Option.some.inj e; exact h
  · rcases oi e with ⟨_, e⟩ | ⟨_, e⟩
    · obtain rfl := Option.some.inj e; exact h
    · rcases oi e with ⟨_, e⟩ | ⟨_, e⟩
      · obtain ⟨r1, e1, e⟩ := ob e
        have j := jX_weigh h n e1
        rcases oi e with ⟨_, e⟩ | ⟨_, e⟩
        · obtain rfl := Option.some.inj e; exact j
        · obtain rfl := Option.some.inj e; exact j
      · obtain rfl := Option.some.inj e; exact h
theorem jX_most {I : gM} {v1 : Int32} {r : Int32 × gM} (h : JX I) (e : fX8_most v1 I = some r) : JX r.2 := by
  unfold fX8_most at e
  rcases oi e with ⟨_, e⟩ | ⟨n, e⟩
  · obtain rfl := Option.some.inj e; exact h
  · rcases oi e with ⟨_, e⟩ | ⟨_, e⟩
    · obtain ⟨_, _, e⟩ := ob e; obtain rfl := Option.some.inj e; exact h
    · rcases oi e with ⟨_, e⟩ | ⟨_, e⟩
      · obtain ⟨_, _, e⟩ := ob e; obtain rfl := Option.some.inj e; exact h
      · rcases oi e with ⟨_, e⟩ | ⟨_, e⟩
        · obtain ⟨_, _, e⟩ := ob e; obtain rfl := Option.some.inj e; exact h
        · rcases oi e with ⟨_, e⟩ | ⟨_, e⟩
          · obtain ⟨_, _, e⟩ := ob e; obtain rfl := Option.some.inj e; exact h
          · rcases oi e with ⟨_, e⟩ | ⟨_, e⟩
            · obtain ⟨r5, e5, e⟩ := ob e
              obtain rfl := Option.some.inj e
              exact h.congA (fun q hq => zfX8_tellingCouples _ e5 q (by omega))
            · rcases oi e with ⟨_, e⟩ | ⟨_, e⟩
              · obtain ⟨r6, e6, e⟩ := ob e
                obtain rfl := Option.some.inj e
                exact h.cong (fun q hq => zfX1_findBy _ _ _ _ e6 q (by omega) (by omega) (by omega) (by omega) (by omega) (by omega) (by omega) (by omega) (by omega) (by omega) (by omega)) ((fz_findBy e6).trans h.2.1)
              · rcases oi e with ⟨_, e⟩ | ⟨_, e⟩
                · obtain ⟨r7, e7, e⟩ := ob e
                  obtain rfl := Option.some.inj e
                  exact jX_weigh h n e7
                · obtain rfl := Option.some.inj e; exact h
theorem jX_without {I : gM} {v1 : Int32} {r : Int32 × gM} (h : JX I) (e : fX8_without v1 I = some r) : JX r.2 := by
  refine h.cong (fun q hq => zfX8_without _ _ e q (by omega) (by omega) (by omega) (by omega) (by omega) (by omega) (by omega) (by omega) (by omega) (by omega) (by omega) (by omega) (by omega) (by omega) (by omega) (by omega)) ?_
  unfold fX8_without at e
  obtain ⟨r1, _, e⟩ := ob e
  rcases oi e with ⟨_, e⟩ | ⟨_, e⟩
  · obtain rfl := Option.some.inj e; exact h.2.1
  · rcases oi e with ⟨_, e⟩ | ⟨_, e⟩
    · obtain rfl := Option.some.inj e; exact h.2.1
    · obtain ⟨r2, e2, e⟩ := ob e
      obtain ⟨r3, e3, e⟩ := ob e
      obtain ⟨r4, e4, e⟩ := ob e
      obtain rfl := Option.some.inj e
      rw [pU_n] at e3
      obtain rfl := Option.some.inj e3
      have q : r2 33 = I 33 := zfX5_copyFrom _ _ _ e2 33 (by omega) (by omega) (by omega) (by omega) (by omega)
      exact (fz_findBy e4).trans (by rw [g_up_row (by decide), q]; exact h.2.1)
theorem jX_projected {I : gM} {v1 : Int32} {r : Int32 × gM} (h : JX I) (e : fX8_projected v1 I = some r) : JX r.2 := by
  refine h.cong (fun q hq => zfX8_projected _ _ e q (by omega) (by omega) (by omega) (by omega) (by omega) (by omega) (by omega) (by omega) (by omega) (by omega) (by omega)) ?_
  unfold fX8_projected at e
  rcases oi e with ⟨_, e⟩ | ⟨_, e⟩
  · obtain rfl := Option.some.inj e; exact h.2.1
  · rcases oi e with ⟨_, e⟩ | ⟨_, e⟩
    · obtain rfl := Option.some.inj e; exact h.2.1
    · rcases oi e with ⟨_, e⟩ | ⟨_, e⟩
      · obtain rfl := Option.some.inj e; exact h.2.1
      · obtain ⟨r1, _, e⟩ := ob e
        rcases oi e with ⟨_, e⟩ | ⟨_, e⟩
        · obtain ⟨r2, e2, e⟩ := ob e
          obtain ⟨r3, _, e⟩ := ob e
          obtain rfl := Option.some.inj e
          exact (fz_findLeading e2).trans h.2.1
        · obtain rfl := Option.some.inj e; exact h.2.1
theorem jX_would {I : gM} {v1 v2 v3 v4 v5 : Int32} {r : Int32 × gM} (h : JX I) (e : fX8_would v1 v2 v3 v4 v5 I = some r) : JX r.2 := by
  refine h.cong (fun q hq => zfX8_would _ _ _ _ _ _ e q (by omega) (by omega) (by omega) (by omega) (by omega) (by omega) (by omega) (by omega) (by omega) (by omega) (by omega) (by omega) (by omega) (by omega) (by omega) (by omega)) ?_
  unfold fX8_would at e
  rcases oi e with ⟨_, e⟩ | ⟨_, e⟩
  · obtain rfl := Option.some.inj e; exact h.2.1
  · rcases oi e with ⟨_, e⟩ | ⟨_, e⟩
    · obtain rfl := Option.some.inj e; exact h.2.1
    · obtain ⟨r1, _, e⟩ := ob e
      rcases oi e with ⟨_, e⟩ | ⟨_, e⟩
      · obtain ⟨r2, e2, e⟩ := ob e
        obtain ⟨r3, _, e⟩ := ob e
        obtain ⟨r4, e4, e⟩ := ob e
        obtain ⟨r5, e5, e⟩ := ob e
        have q2 : r2 33 = I 33 := zfX5_copyFrom _ _ _ e2 33 (by omega) (by omega) (by omega) (by omega) (by omega)
        have q4 : r4 33 = r2 33 := zfX5_change _ _ _ _ _ e4 33 (by omega) (by omega) (by omega)
        have q5 : r5 33 0 = 0 := (fz_findBy e5).trans (by rw [q4, q2]; exact h.2.1)
        rcases oi e with ⟨_, e⟩ | ⟨_, e⟩
        · obtain rfl := Option.some.inj e; exact q5
        · obtain rfl := Option.some.inj e; exact q5
      · obtain rfl := Option.some.inj e; exact h.2.1
theorem jX_run {I : gM} {v1 v2 : Int32} {r : Int32 × gM} (h : JX I) (e : fX8_run v1 v2 I = some r) : JX r.2 := by
  refine h.cong (fun q hq => zfX8_run _ _ _ e q (by omega) (by omega) (by omega) (by omega) (by omega) (by omega) (by omega) (by omega) (by omega) (by omega) (by omega) (by omega) (by omega) (by omega) (by omega) (by omega)) ?_
  unfold fX8_run at e
  obtain ⟨r1, _, e⟩ := ob e
  rcases oi e with ⟨_, e⟩ | ⟨_, e⟩
  · obtain rfl := Option.some.inj e; exact h.2.1
  · rcases oi e with ⟨_, e⟩ | ⟨_, e⟩
    · obtain rfl := Option.some.inj e; exact h.2.1
    · rcases oi e with ⟨_, e⟩ | ⟨_, e⟩
      · obtain rfl := Option.some.inj e; exact h.2.1
      · rcases oi e with ⟨_, e⟩ | ⟨_, e⟩
        · obtain ⟨r2, e2, e⟩ := ob e
          obtain ⟨k3, _, e⟩ := ob e
          obtain ⟨r4, e4, e⟩ := ob e
          have q2 : r2 33 = I 33 := zfX5_copyFrom _ _ _ e2 33 (by omega) (by omega) (by omega) (by omega) (by omega)
          have q4 : r4.2 33 = r2 33 := zfX4_rehearse _ _ _ e4 33 (by omega) (by omega) (by omega)
          have q5 : r4.2 33 0 = 0 := by rw [q4, q2]; exact h.2.1
          rcases oi e with ⟨_, e⟩ | ⟨_, e⟩
          · obtain ⟨k5, _, e⟩ := ob e
            rcases oi e with ⟨_, e⟩ | ⟨_, e⟩
            · obtain rfl := Option.some.inj e; exact q5
            · obtain rfl := Option.some.inj e; exact q5
          · obtain ⟨r6, e6, e⟩ := ob e
            obtain rfl := Option.some.inj e
            exact (fz_findBy e6).trans q5
        · obtain rfl := Option.some.inj e; exact h.2.1
theorem jX_feed {I : gM} {v1 v2 v3 v4 v5 : Int32} {r : Int32 × gM} (h : JX I) (e : fX8_feed v1 v2 v3 v4 v5 I = some r) : JX r.2 := h.congA (fun q hq => zfX8_feed _ _ _ _ _ _ e q (by omega) (by omega))
theorem jX_end {I : gM} {v1 : Int32} {r : Int32 × gM} (h : JX I) (e : fX8_end v1 I = some r) : JX r.2 := h.congA (fun q hq => zfX8_end _ _ e q (by omega))
theorem jX_fault {I : gM} {v1 : Int32} {r : Int32 × gM} (h : JX I) (e : fX8_fault v1 I = some r) : JX r.2 := h.congA (fun q hq => zfX8_fault _ _ e q (by omega) (by omega) (by omega) (by omega) (by omega) (by omega) (by omega) (by omega))
theorem jX_times {I : gM} {v1 v2 : Int32} {r : Int32 × gM} (h : JX I) (e : fX8_times v1 v2 I = some r) : JX r.2 := h.congA (fun q hq => zfX8_times _ _ _ e q (by omega))
theorem jX_distinct {I : gM} {v1 v2 : Int32} {r : Int32 × gM} (h : JX I) (e : fX8_distinct v1 v2 I = some r) : JX r.2 := h.congA (fun q hq => zfX8_distinct _ _ _ e q (by omega))
theorem jX_tells {I : gM} {v1 v2 : Int32} {r : Int32 × gM} (h : JX I) (e : fX8_tells v1 v2 I = some r) : JX r.2 := h.congA (fun q hq => zfX8_tells _ _ _ e q (by omega))
theorem jX_image {I : gM} {r : Int32 × gM} (h : JX I) (e : fX8_image  I = some r) : JX r.2 := h.congA (fun q hq => zfX8_image _ e q (by omega) (by omega) (by omega) (by omega) (by omega) (by omega) (by omega) (by omega))
theorem jX_skew {I : gM} {v1 : Int32} {r : Int32 × gM} (h : JX I) (e : fX8_skew v1 I = some r) : JX r.2 := by
  unfold fX8_skew at e
  obtain ⟨r1, _, e⟩ := ob e
  rcases oi e with ⟨_, e⟩ | ⟨_, e⟩
  · obtain rfl := Option.some.inj e; exact h
  · rcases oi e with ⟨_, e⟩ | ⟨_, e⟩
    · obtain rfl := Option.some.inj e; exact h
    · obtain ⟨r2, e2, e⟩ := ob e
      have j : JX r2 := h.congA (fun q hq => zfX0_tallyUp _ _ _ e2 q (by omega))
      obtain ⟨r3, _, e⟩ := ob e
      rcases oi e with ⟨_, e⟩ | ⟨_, e⟩
      · obtain rfl := Option.some.inj e; exact j
      · rcases oi e with ⟨_, e⟩ | ⟨_, e⟩
        · obtain ⟨_, _, e⟩ := ob e
          obtain ⟨_, _, e⟩ := ob e
          obtain ⟨_, _, e⟩ := ob e
          obtain rfl := Option.some.inj e; exact j
        · obtain rfl := Option.some.inj e; exact j
/-! the calls over both -/
/-- an image of tables, where there are tables -/
def RX (I : gM) : Prop := I 62 42 ≠ 0 → I 62 17 ≠ 0
theorem RX.keep {I b : gM} (h : RX I) (h1 : b 62 17 = I 62 17) (h2 : b 62 42 = I 62 42) : RX b := by
  unfold RX
  rw [h1, h2]; exact h
def InvB (I : gM) : Prop := InvA 3 I ∧ JX I ∧ RX I
theorem InvB.mk' {a b : gM} (h : InvA 3 b) (j : JX a) (lo : ∀ q, q < 62 → b q = a q) (x : RX b) : InvB b := ⟨h, j.congA (fun q hq => lo q (by omega)), x⟩
theorem InvB.hJ {I : gM} (h : InvB I) : 3 = 3 → JE ∧ I 22 0 = 0 := fun _ => ⟨je, h.2.1.1⟩
theorem zS_skew {I : gM} {v1 : Int32} {r : Int32 × gM} (e : fX8_skew v1 I = some r) : r.2 62 = I 62 := by
  unfold fX8_skew at e
  obtain ⟨r1, _, e⟩ := ob e
  rcases oi e with ⟨_, e⟩ | ⟨_, e⟩
  · obtain rfl := Option.some.inj e; rfl
  · rcases oi e with ⟨_, e⟩ | ⟨_, e⟩
    · obtain rfl := Option.some.inj e; rfl
    · obtain ⟨r2, e2, e⟩ := ob e
      have j : r2 62 = I 62 := zfX0_tallyUp _ _ _ e2 62 (by omega)
      obtain ⟨r3, _, e⟩ := ob e
      rcases oi e with ⟨_, e⟩ | ⟨_, e⟩
      · obtain rfl := Option.some.inj e; exact j
      · rcases oi e with ⟨_, e⟩ | ⟨_, e⟩
        · obtain ⟨_, _, e⟩ := ob e
          obtain ⟨_, _, e⟩ := ob e
          obtain ⟨_, _, e⟩ := ob e
          obtain rfl := Option.some.inj e; exact j
        · obtain rfl := Option.some.inj e; exact j
theorem rx_image {a : gM} {b : Int32 × gM} (h : RX a) (e : fX9_image a = some b) : RX b.2 := by
  have e' := e
  unfold fX9_image at e'
  obtain ⟨r1, e1, e'⟩ := ob e'
  rcases oi e' with ⟨_, e'⟩ | ⟨c, e'⟩
  · obtain rfl := Option.some.inj e'; exact h
  · intro _
    have k := xfX9_image _ e 62 17 (by omega) (by omega) (by omega) (by omega) (by omega) (by omega) (by omega) (by omega) (by omega) (by omega) (by omega) (by omega)
    rw [k]
    intro z
    unfold fX9_areTables at e1
    rw [z, if_pos (by decide)] at e1
    exact c (Option.some.inj e1).symm
theorem rx_text {a : gM} {v : Int32} {b : Int32 × gM} (h : RX a) (e : fX9_text v a = some b) : RX b.2 := by
  have k22 : ∀ {w M}, RX M → bX9_text_22 w M = some b → RX b.2 := fun {w M} h e => by
    unfold bX9_text_22 at e
    rcases oi e with ⟨_, e⟩ | ⟨_, e⟩
    · rcases oi e with ⟨_, e⟩ | ⟨_, e⟩
      · obtain rfl := Option.some.inj e; exact h
      · obtain ⟨r4, e4, e⟩ := ob e
        have h4 : RX r4.2 := h.keep (xfX9_readScript _ _ e4 62 17 (by omega) (by omega) (by omega) (by omega)) (xfX9_readScript _ _ e4 62 42 (by omega) (by omega) (by omega) (by omega))
        rcases oi e with ⟨_, e⟩ | ⟨_, e⟩
        · obtain ⟨I5, e5, e⟩ := ob e
          obtain ⟨I6, e6, e⟩ := ob e
          obtain rfl := Option.some.inj e
          rw [pU_n] at e5 e6
          obtain rfl := Option.some.inj e5
          obtain rfl := Option.some.inj e6
          have k : ∀ j, j ≠ 2 → j ≠ 12 → g_up (g_up r4.2 62 2 0) 62 12 (g_up r4.2 62 2 0 62 12 + 1) 62 j = r4.2 62 j := fun j h1 h2 => by rw [g_up_ne (Or.inr h2), g_up_ne (Or.inr h1)]
          exact h4.keep (k 17 (by decide) (by decide)) (k 42 (by decide) (by decide))
        · obtain rfl := Option.some.inj e; exact h4
    · obtain rfl := Option.some.inj e; exact h
  unfold fX9_text at e
  rcases oi e with ⟨_, e⟩ | ⟨_, e⟩
  · obtain ⟨r1, e1, e⟩ := ob e
    have h1 : RX r1.2 := h.keep (xfX9_readAll _ e1 62 17 (by omega) (by omega) (by omega) (by omega) (by omega) (by omega) (by omega)) (xfX9_readAll _ e1 62 42 (by omega) (by omega) (by omega) (by omega) (by omega) (by omega) (by omega))
    rcases oi e with ⟨_, e⟩ | ⟨_, e⟩
    · obtain ⟨I2, e2, e⟩ := ob e
      obtain ⟨r3, e3, e⟩ := ob e
      obtain rfl := Option.some.inj e
      unfold fX9_takeTables at e3
      obtain ⟨_, _, e3⟩ := ob e3
      obtain ⟨_, _, e3⟩ := ob e3
      obtain ⟨_, _, e3⟩ := ob e3
      obtain ⟨_, _, e3⟩ := ob e3
      obtain ⟨I21, _, e3⟩ := ob e3
      obtain ⟨I22, e22, e3⟩ := ob e3
      obtain rfl := Option.some.inj e3
      rw [pU_n] at e22
      obtain rfl := Option.some.inj e22
      exact fun z => absurd (show g_up I21 62 42 0 62 42 = 0 from g_up_self) z
    · exact k22 h1 e
  · exact k22 h e
theorem jb_put {I : gM} (h : InvB I) (v1 v2 v3 v4 : Int32) : ∃ a b, fX8_put v1 v2 v3 v4 I = some a ∧ fX9_put v1 v2 v3 v4 a.2 = some b ∧ InvB b.2 ∧ a.1 = b.1 := by
  obtain ⟨a, b, e1, e2, hI, he⟩ := all_put h.1 (by omega) h.hJ v1 v2 v3 v4
  exact ⟨a, b, e1, e2, InvB.mk' hI (jX_put h.2.1 e1) (fun q hq => zfX9_put _ _ _ _ _ e2 q (by omega) (by omega) (by omega) (by omega) (by omega) (by omega) (by omega) (by omega) (by omega) (by omega) (by omega)) (h.2.2.keep ((xfX9_put _ _ _ _ _ e2 62 17 (by omega) (by omega) (by omega) (by omega) (by omega) (by omega) (by omega) (by omega) (by omega) (by omega) (by omega) (by omega) (by omega) (by omega)).trans (congrFun (zfX8_put _ _ _ _ _ e1 62 (by omega) (by omega) (by omega) (by omega) (by omega) (by omega) (by omega) (by omega) (by omega) (by omega) (by omega) (by omega) (by omega) (by omega) (by omega) (by omega) (by omega) (by omega) (by omega) (by omega)) 17)) ((xfX9_put _ _ _ _ _ e2 62 42 (by omega) (by omega) (by omega) (by omega) (by omega) (by omega) (by omega) (by omega) (by omega) (by omega) (by omega) (by omega) (by omega) (by omega)).trans (congrFun (zfX8_put _ _ _ _ _ e1 62 (by omega) (by omega) (by omega) (by omega) (by omega) (by omega) (by omega) (by omega) (by omega) (by omega) (by omega) (by omega) (by omega) (by omega) (by omega) (by omega) (by omega) (by omega) (by omega) (by omega)) 42))), he⟩
theorem jb_take {I : gM} (h : InvB I) (v1 v2 v3 v4 : Int32) : ∃ a b, fX8_take v1 v2 v3 v4 I = some a ∧ fX9_take v1 v2 v3 v4 a.2 = some b ∧ InvB b.2 ∧ a.1 = b.1 := by
  obtain ⟨a, b, e1, e2, hI, he⟩ := all_take h.1 (by omega) h.hJ v1 v2 v3 v4
  exact ⟨a, b, e1, e2, InvB.mk' hI (jX_take h.2.1 e1) (fun q hq => zfX9_take _ _ _ _ _ e2 q (by omega) (by omega) (by omega) (by omega) (by omega) (by omega) (by omega) (by omega) (by omega) (by omega) (by omega)) (h.2.2.keep ((xfX9_take _ _ _ _ _ e2 62 17 (by omega) (by omega) (by omega) (by omega) (by omega) (by omega) (by omega) (by omega) (by omega) (by omega) (by omega) (by omega) (by omega) (by omega)).trans (congrFun (zfX8_take _ _ _ _ _ e1 62 (by omega) (by omega) (by omega) (by omega) (by omega) (by omega) (by omega) (by omega) (by omega) (by omega) (by omega) (by omega) (by omega) (by omega) (by omega) (by omega) (by omega) (by omega) (by omega) (by omega)) 17)) ((xfX9_take _ _ _ _ _ e2 62 42 (by omega) (by omega) (by omega) (by omega) (by omega) (by omega) (by omega) (by omega) (by omega) (by omega) (by omega) (by omega) (by omega) (by omega)).trans (congrFun (zfX8_take _ _ _ _ _ e1 62 (by omega) (by omega) (by omega) (by omega) (by omega) (by omega) (by omega) (by omega) (by omega) (by omega) (by omega) (by omega) (by omega) (by omega) (by omega) (by omega) (by omega) (by omega) (by omega) (by omega)) 42))), he⟩
theorem jb_use {I : gM} (h : InvB I) (v1 : Int32) : ∃ a b, fX8_use v1 I = some a ∧ fX9_use v1 a.2 = some b ∧ InvB b.2 ∧ a.1 = b.1 := by
  obtain ⟨a, b, e1, e2, hI, he⟩ := all_use h.1 (by omega) h.hJ v1
  exact ⟨a, b, e1, e2, InvB.mk' hI (jX_use h.2.1 e1) (fun q hq => zfX9_use _ _ e2 q (by omega) (by omega) (by omega) (by omega) (by omega) (by omega) (by omega) (by omega) (by omega) (by omega) (by omega)) (h.2.2.keep ((xfX9_use _ _ e2 62 17 (by omega) (by omega) (by omega) (by omega) (by omega) (by omega) (by omega) (by omega) (by omega) (by omega) (by omega) (by omega) (by omega) (by omega)).trans (congrFun (zfX8_use _ _ e1 62 (by omega) (by omega) (by omega) (by omega) (by omega) (by omega) (by omega) (by omega) (by omega) (by omega) (by omega) (by omega) (by omega) (by omega) (by omega) (by omega) (by omega) (by omega) (by omega) (by omega)) 17)) ((xfX9_use _ _ e2 62 42 (by omega) (by omega) (by omega) (by omega) (by omega) (by omega) (by omega) (by omega) (by omega) (by omega) (by omega) (by omega) (by omega) (by omega)).trans (congrFun (zfX8_use _ _ e1 62 (by omega) (by omega) (by omega) (by omega) (by omega) (by omega) (by omega) (by omega) (by omega) (by omega) (by omega) (by omega) (by omega) (by omega) (by omega) (by omega) (by omega) (by omega) (by omega) (by omega)) 42))), he⟩
theorem jb_order {I : gM} (h : InvB I) (v1 : Int32) : ∃ a b, fX8_order v1 I = some a ∧ fX9_order v1 a.2 = some b ∧ InvB b.2 ∧ a.1 = b.1 := by
  obtain ⟨a, b, e1, e2, hI, he⟩ := all_order h.1 (by omega) h.hJ v1
  exact ⟨a, b, e1, e2, InvB.mk' hI (jX_order h.2.1 e1) (fun q hq => zfX9_order _ _ e2 q (by omega) (by omega) (by omega) (by omega) (by omega) (by omega) (by omega) (by omega) (by omega) (by omega) (by omega)) (h.2.2.keep ((xfX9_order _ _ e2 62 17 (by omega) (by omega) (by omega) (by omega) (by omega) (by omega) (by omega) (by omega) (by omega) (by omega) (by omega) (by omega) (by omega) (by omega)).trans (congrFun (zfX8_order _ _ e1 62 (by omega) (by omega) (by omega) (by omega) (by omega) (by omega) (by omega) (by omega) (by omega) (by omega) (by omega) (by omega) (by omega) (by omega) (by omega) (by omega) (by omega) (by omega) (by omega) (by omega)) 17)) ((xfX9_order _ _ e2 62 42 (by omega) (by omega) (by omega) (by omega) (by omega) (by omega) (by omega) (by omega) (by omega) (by omega) (by omega) (by omega) (by omega) (by omega)).trans (congrFun (zfX8_order _ _ e1 62 (by omega) (by omega) (by omega) (by omega) (by omega) (by omega) (by omega) (by omega) (by omega) (by omega) (by omega) (by omega) (by omega) (by omega) (by omega) (by omega) (by omega) (by omega) (by omega) (by omega)) 42))), he⟩
theorem jb_undo {I : gM} (h : InvB I) : ∃ a b, fX8_undo I = some a ∧ fX9_undo a.2 = some b ∧ InvB b.2 ∧ a.1 = b.1 := by
  obtain ⟨a, b, e1, e2, hI, he⟩ := all_undo h.1 (by omega) 
  exact ⟨a, b, e1, e2, InvB.mk' hI (jX_undo h.2.1 e1) (fun q hq => zfX9_undo _ e2 q (by omega) (by omega)) (h.2.2.keep ((xfX9_undo _ e2 62 17 (by omega) (by omega)).trans (congrFun (zfX8_undo _ e1 62 (by omega) (by omega) (by omega) (by omega) (by omega) (by omega) (by omega) (by omega) (by omega) (by omega) (by omega) (by omega) (by omega) (by omega) (by omega) (by omega) (by omega)) 17)) ((xfX9_undo _ e2 62 42 (by omega) (by omega)).trans (congrFun (zfX8_undo _ e1 62 (by omega) (by omega) (by omega) (by omega) (by omega) (by omega) (by omega) (by omega) (by omega) (by omega) (by omega) (by omega) (by omega) (by omega) (by omega) (by omega) (by omega)) 42))), he⟩
theorem jb_image {I : gM} (h : InvB I) : ∃ a b, fX8_image I = some a ∧ fX9_image a.2 = some b ∧ InvB b.2 := by
  obtain ⟨a, b, e1, e2, hI⟩ := all_image h.1 (by omega) 
  exact ⟨a, b, e1, e2, InvB.mk' hI (jX_image h.2.1 e1) (fun q hq => zfX9_image _ e2 q (by omega) (by omega) (by omega) (by omega) (by omega) (by omega) (by omega) (by omega) (by omega)) (rx_image (h.2.2.keep (congrFun (zfX8_image _ e1 62 (by omega) (by omega) (by omega) (by omega) (by omega) (by omega) (by omega) (by omega)) 17) (congrFun (zfX8_image _ e1 62 (by omega) (by omega) (by omega) (by omega) (by omega) (by omega) (by omega) (by omega)) 42)) e2)⟩
theorem jb_back {I : gM} (h : InvB I) : ∃ a b, fX8_back I = some a ∧ fX9_back a.2 = some b ∧ InvB b.2 := by
  obtain ⟨a, b, e1, e2, hI⟩ := all_back h.1 (by omega) 
  exact ⟨a, b, e1, e2, InvB.mk' hI (jX_back h.2.1 e1) (fun q hq => zfX9_back _ e2 q (by omega) (by omega) (by omega) (by omega) (by omega) (by omega) (by omega) (by omega) (by omega)) (h.2.2.keep ((xfX9_back _ e2 62 17 (by omega) (by omega) (by omega) (by omega) (by omega) (by omega) (by omega) (by omega) (by omega) (by omega) (by omega) (by omega)).trans (congrFun (zfX8_back _ e1 62 (by omega) (by omega) (by omega) (by omega) (by omega) (by omega) (by omega) (by omega) (by omega) (by omega) (by omega) (by omega) (by omega) (by omega) (by omega) (by omega) (by omega) (by omega) (by omega) (by omega)) 17)) ((xfX9_back _ e2 62 42 (by omega) (by omega) (by omega) (by omega) (by omega) (by omega) (by omega) (by omega) (by omega) (by omega) (by omega) (by omega)).trans (congrFun (zfX8_back _ e1 62 (by omega) (by omega) (by omega) (by omega) (by omega) (by omega) (by omega) (by omega) (by omega) (by omega) (by omega) (by omega) (by omega) (by omega) (by omega) (by omega) (by omega) (by omega) (by omega) (by omega)) 42)))⟩
theorem jb_text {I : gM} (h : InvB I) (v : Int32) : ∃ a b, fX8_text v I = some a ∧ fX9_text v a.2 = some b ∧ InvB b.2 ∧ a.1 = b.1 := by
  obtain ⟨a, b, e1, e2, hI, he⟩ := all_text h.1 (by omega) v
  exact ⟨a, b, e1, e2, InvB.mk' hI (jX_text h.2.1 e1) (fun q hq => zfX9_text _ _ e2 q (by omega) (by omega) (by omega) (by omega) (by omega) (by omega) (by omega) (by omega) (by omega) (by omega)) (rx_text (h.2.2.keep (congrFun (zfX8_text _ _ e1 62 (by omega) (by omega) (by omega) (by omega) (by omega) (by omega) (by omega) (by omega) (by omega) (by omega) (by omega) (by omega) (by omega) (by omega) (by omega) (by omega) (by omega) (by omega) (by omega) (by omega) (by omega) (by omega) (by omega) (by omega) (by omega) (by omega) (by omega) (by omega) (by omega) (by omega) (by omega) (by omega) (by omega) (by omega) (by omega) (by omega)) 17) (congrFun (zfX8_text _ _ e1 62 (by omega) (by omega) (by omega) (by omega) (by omega) (by omega) (by omega) (by omega) (by omega) (by omega) (by omega) (by omega) (by omega) (by omega) (by omega) (by omega) (by omega) (by omega) (by omega) (by omega) (by omega) (by omega) (by omega) (by omega) (by omega) (by omega) (by omega) (by omega) (by omega) (by omega) (by omega) (by omega) (by omega) (by omega) (by omega) (by omega)) 42)) e2), he⟩
theorem jb_perform {I : gM} (h : InvB I) (v : Int32) : ∃ a b, fX8_perform v I = some a ∧ fX9_perform v a.2 = some b ∧ InvB b.2 ∧ a.1 = b.1 := by
  obtain ⟨a, b, e1, e2, hI, he⟩ := all_perform h.1 (by omega) h.hJ v
  exact ⟨a, b, e1, e2, InvB.mk' hI (jX_perform h.2.1 e1) (fun q hq => zfX9_perform _ _ e2 q (by omega) (by omega) (by omega) (by omega) (by omega) (by omega) (by omega) (by omega) (by omega) (by omega)) (h.2.2.keep ((xfX9_perform _ _ e2 62 17 (by omega) (by omega) (by omega) (by omega) (by omega) (by omega) (by omega) (by omega) (by omega) (by omega) (by omega) (by omega) (by omega)).trans (congrFun (zfX8_perform _ _ e1 62 (by omega) (by omega) (by omega) (by omega) (by omega) (by omega) (by omega) (by omega) (by omega) (by omega) (by omega) (by omega) (by omega) (by omega) (by omega) (by omega) (by omega) (by omega) (by omega)) 17)) ((xfX9_perform _ _ e2 62 42 (by omega) (by omega) (by omega) (by omega) (by omega) (by omega) (by omega) (by omega) (by omega) (by omega) (by omega) (by omega) (by omega)).trans (congrFun (zfX8_perform _ _ e1 62 (by omega) (by omega) (by omega) (by omega) (by omega) (by omega) (by omega) (by omega) (by omega) (by omega) (by omega) (by omega) (by omega) (by omega) (by omega) (by omega) (by omega) (by omega) (by omega)) 42))), he⟩
theorem jb_ways {I : gM} (h : InvB I) (v1 : Int32) (v2 : Int64) (J : gN) : ∃ a b, fX8_ways v1 v2 I J = some a ∧ fX9_ways v1 v2 a.2.1 a.2.2 = some b ∧ InvB b.2.1 := by
  obtain ⟨a, b, e1, e2, hI⟩ := all_ways h.1 (by omega) h.hJ v1 v2 J
  exact ⟨a, b, e1, e2, InvB.mk' hI (jX_ways h.2.1 e1) (fun q hq => zfX9_ways _ _ _ _ e2 q (by omega) (by omega) (by omega) (by omega) (by omega) (by omega) (by omega) (by omega) (by omega) (by omega)) (h.2.2.keep ((xfX9_ways _ _ _ _ e2 62 17 (by omega) (by omega) (by omega) (by omega) (by omega) (by omega) (by omega) (by omega) (by omega) (by omega) (by omega) (by omega) (by omega)).trans (congrFun (zfX8_ways _ _ _ _ e1 62 (by omega) (by omega) (by omega) (by omega) (by omega) (by omega) (by omega) (by omega) (by omega) (by omega) (by omega) (by omega) (by omega) (by omega) (by omega) (by omega) (by omega) (by omega) (by omega)) 17)) ((xfX9_ways _ _ _ _ e2 62 42 (by omega) (by omega) (by omega) (by omega) (by omega) (by omega) (by omega) (by omega) (by omega) (by omega) (by omega) (by omega) (by omega)).trans (congrFun (zfX8_ways _ _ _ _ e1 62 (by omega) (by omega) (by omega) (by omega) (by omega) (by omega) (by omega) (by omega) (by omega) (by omega) (by omega) (by omega) (by omega) (by omega) (by omega) (by omega) (by omega) (by omega) (by omega)) 42)))⟩
theorem jb_rule {I : gM} (h : InvB I) (v : Int32) : ∃ a b, fX8_rule v I = some a ∧ fX9_rule v I = some b ∧ InvB I ∧ a = b := by
  obtain ⟨a, b, e1, e2, hI, he⟩ := all_rule h.1 v
  exact ⟨a, b, e1, e2, h, he⟩
theorem jb_plain {I : gM} (h : InvB I) : ∃ a b, fX8_plain I = some a ∧ fX9_plain I = some b ∧ InvB I ∧ a = b := by
  obtain ⟨a, b, e1, e2, hI, he⟩ := all_plain h.1 
  exact ⟨a, b, e1, e2, h, he⟩
theorem jb_status {I : gM} (h : InvB I) (v : Int32) : ∃ a b, fX8_status v I = some a ∧ fX9_status v I = some b ∧ InvB I ∧ a = b := by
  obtain ⟨a, b, e1, e2, hI, he⟩ := all_status h.1 v
  exact ⟨a, b, e1, e2, h, he⟩
theorem jb_count {I : gM} (h : InvB I) (v : Int32) : ∃ a b, fX8_count v I = some a ∧ fX9_count v I = some b ∧ InvB I ∧ a = b := by
  obtain ⟨a, b, e1, e2, hI, he⟩ := all_count h.1 v
  exact ⟨a, b, e1, e2, h, he⟩
theorem jb_cell {I : gM} (h : InvB I) (v1 v2 v3 : Int32) : ∃ a b, fX8_cell v1 v2 v3 I = some a ∧ fX9_cell v1 v2 v3 I = some b ∧ InvB I ∧ a = b := by
  obtain ⟨a, b, e1, e2, hI, he⟩ := all_cell h.1 v1 v2 v3
  exact ⟨a, b, e1, e2, h, he⟩
theorem jb_step {I : gM} (h : InvB I) (v1 v2 v3 : Int32) : ∃ a b, fX8_step v1 v2 v3 I = some a ∧ fX9_step v1 v2 v3 I = some b ∧ InvB I ∧ a = b := by
  obtain ⟨a, b, e1, e2, hI, he⟩ := all_step h.1 v1 v2 v3
  exact ⟨a, b, e1, e2, h, he⟩
theorem jb_table {I : gM} (h : InvB I) (v1 v2 : Int32) : ∃ y b, fT8 v1 v2 I = some y ∧ fX9_table v1 v2 I = some b ∧ InvB b.2 ∧ b.2 62 0 = jr y ∧ ∀ v, y = some v → b.1 = v := by
  obtain ⟨y, b, e1, e2, hI, hr⟩ := all_table h.1 (by omega) v1 v2
  exact ⟨y, b, e1, e2, InvB.mk' hI h.2.1 (fun q hq => zfX9_table _ _ _ e2 q (by omega)) (h.2.2.keep (xfX9_table _ _ _ e2 62 17 (by omega)) (xfX9_table _ _ _ e2 62 42 (by omega))), hr⟩
theorem jb_feed {I : gM} (h : InvB I) (v1 v2 v3 v4 v5 : Int32) : ∃ a b, fX8_feed v1 v2 v3 v4 v5 I = some a ∧ fX9_feed v1 v2 v3 v4 v5 a.2 = some b ∧ InvB b.2 ∧ a.1 = b.1 := by
  obtain ⟨a, b, e1, e2, hI, he⟩ := all_feed h.1 (by omega) v1 v2 v3 v4 v5
  exact ⟨a, b, e1, e2, InvB.mk' hI (jX_feed h.2.1 e1) (fun q hq => zfX9_feed _ _ _ _ _ _ e2 q (by omega) (by omega)) (h.2.2.keep ((xfX9_feed _ _ _ _ _ _ e2 62 17 (by omega) (by omega)).trans (congrFun (zfX8_feed _ _ _ _ _ _ e1 62 (by omega) (by omega)) 17)) ((xfX9_feed _ _ _ _ _ _ e2 62 42 (by omega) (by omega)).trans (congrFun (zfX8_feed _ _ _ _ _ _ e1 62 (by omega) (by omega)) 42))), he⟩
theorem jb_end {I : gM} (h : InvB I) (v : Int32) : ∃ a b, fX8_end v I = some a ∧ fX9_end v a.2 = some b ∧ InvB b.2 ∧ a.1 = b.1 := by
  obtain ⟨a, b, e1, e2, hI, he⟩ := all_end h.1 (by omega) v
  exact ⟨a, b, e1, e2, InvB.mk' hI (jX_end h.2.1 e1) (fun q hq => zfX9_end _ _ e2 q (by omega)) (h.2.2.keep ((xfX9_end _ _ e2 62 17 (by omega)).trans (congrFun (zfX8_end _ _ e1 62 (by omega)) 17)) ((xfX9_end _ _ e2 62 42 (by omega)).trans (congrFun (zfX8_end _ _ e1 62 (by omega)) 42))), he⟩
theorem jb_fault {I : gM} (h : InvB I) (v1 : Int32) : ∃ a b, fX8_fault v1 I = some a ∧ fX9_fault v1 a.2 = some b ∧ InvB b.2 := by
  obtain ⟨a, b, e1, e2, hI⟩ := all_fault h.1 (by omega) v1
  exact ⟨a, b, e1, e2, InvB.mk' hI (jX_fault h.2.1 e1) (fun q hq => zfX9_fault _ _ e2 q (by omega) (by omega) (by omega) (by omega) (by omega) (by omega) (by omega)) (h.2.2.keep ((xfX9_fault _ _ e2 62 17 (by omega) (by omega) (by omega) (by omega) (by omega) (by omega) (by omega) (by omega) (by omega)).trans (congrFun (zfX8_fault _ _ e1 62 (by omega) (by omega) (by omega) (by omega) (by omega) (by omega) (by omega) (by omega)) 17)) ((xfX9_fault _ _ e2 62 42 (by omega) (by omega) (by omega) (by omega) (by omega) (by omega) (by omega) (by omega) (by omega)).trans (congrFun (zfX8_fault _ _ e1 62 (by omega) (by omega) (by omega) (by omega) (by omega) (by omega) (by omega) (by omega)) 42)))⟩
theorem jb_rows {I : gM} (h : InvB I) : ∃ a b, fX8_rows I = some a ∧ fX9_rows I = some b ∧ InvB b.2 := by
  obtain ⟨a, b, e1, e2, hI⟩ := all_rows h.1 (by omega) 
  exact ⟨a, b, e1, e2, InvB.mk' hI (h.2.1) (fun q hq => zfX9_rows _ e2 q (by omega) (by omega) (by omega) (by omega) (by omega) (by omega) (by omega) (by omega)) (h.2.2.keep (xfX9_rows _ e2 62 17 (by omega) (by omega) (by omega) (by omega) (by omega) (by omega) (by omega) (by omega) (by omega) (by omega)) (xfX9_rows _ e2 62 42 (by omega) (by omega) (by omega) (by omega) (by omega) (by omega) (by omega) (by omega) (by omega) (by omega)))⟩
theorem jb_row {I : gM} (h : InvB I) (v1 : Int32) (v2 : Int32) : ∃ a b, fX8_row v1 v2 I = some a ∧ fX9_row v1 v2 I = some b ∧ InvB b.2 := by
  obtain ⟨a, b, e1, e2, hI⟩ := all_row h.1 (by omega) v1 v2
  exact ⟨a, b, e1, e2, InvB.mk' hI (h.2.1) (fun q hq => zfX9_row _ _ _ e2 q (by omega) (by omega) (by omega) (by omega) (by omega) (by omega) (by omega) (by omega)) (h.2.2.keep (xfX9_row _ _ _ e2 62 17 (by omega) (by omega) (by omega) (by omega) (by omega) (by omega) (by omega) (by omega) (by omega) (by omega)) (xfX9_row _ _ _ e2 62 42 (by omega) (by omega) (by omega) (by omega) (by omega) (by omega) (by omega) (by omega) (by omega) (by omega)))⟩
theorem jb_leaps {I : gM} (h : InvB I) : ∃ a b, fX8_leaps I = some a ∧ fX9_leaps_ I = some b ∧ InvB b.2 := by
  obtain ⟨a, b, e1, e2, hI⟩ := all_leaps h.1 (by omega) 
  exact ⟨a, b, e1, e2, InvB.mk' hI (h.2.1) (fun q hq => zfX9_leaps_ _ e2 q (by omega) (by omega) (by omega) (by omega) (by omega) (by omega) (by omega) (by omega)) (h.2.2.keep (xfX9_leaps_ _ e2 62 17 (by omega) (by omega) (by omega) (by omega) (by omega) (by omega) (by omega) (by omega) (by omega) (by omega)) (xfX9_leaps_ _ e2 62 42 (by omega) (by omega) (by omega) (by omega) (by omega) (by omega) (by omega) (by omega) (by omega) (by omega)))⟩
theorem jb_beginnings {I : gM} (h : InvB I) (v1 : Int32) : ∃ a b, fX8_beginnings v1 I = some a ∧ fX9_beginnings v1 I = some b ∧ InvB b.2 := by
  obtain ⟨a, b, e1, e2, hI⟩ := all_beginnings h.1 (by omega) v1
  exact ⟨a, b, e1, e2, InvB.mk' hI (h.2.1) (fun q hq => zfX9_beginnings _ _ e2 q (by omega) (by omega) (by omega) (by omega) (by omega) (by omega) (by omega) (by omega)) (h.2.2.keep (xfX9_beginnings _ _ e2 62 17 (by omega) (by omega) (by omega) (by omega) (by omega) (by omega) (by omega) (by omega) (by omega) (by omega)) (xfX9_beginnings _ _ e2 62 42 (by omega) (by omega) (by omega) (by omega) (by omega) (by omega) (by omega) (by omega) (by omega) (by omega)))⟩
theorem jb_best {I : gM} (h : InvB I) (v1 : Int32) : ∃ a b, fX8_best v1 I = some a ∧ fX9_best v1 a.2 = some b ∧ InvB b.2 := by
  obtain ⟨a, b, e1, e2, hI⟩ := all_best h.1 (by omega) v1
  exact ⟨a, b, e1, e2, InvB.mk' hI (jX_best h.2.1 e1) (fun q hq => zfX9_best _ _ e2 q (by omega) (by omega) (by omega) (by omega) (by omega) (by omega) (by omega) (by omega)) (h.2.2.keep ((xfX9_best _ _ e2 62 17 (by omega) (by omega) (by omega) (by omega) (by omega) (by omega) (by omega) (by omega) (by omega) (by omega) (by omega) (by omega) (by omega)).trans (congrFun (zfX8_best _ _ e1 62 (by omega) (by omega) (by omega) (by omega) (by omega) (by omega) (by omega) (by omega) (by omega) (by omega) (by omega) (by omega)) 17)) ((xfX9_best _ _ e2 62 42 (by omega) (by omega) (by omega) (by omega) (by omega) (by omega) (by omega) (by omega) (by omega) (by omega) (by omega) (by omega) (by omega)).trans (congrFun (zfX8_best _ _ e1 62 (by omega) (by omega) (by omega) (by omega) (by omega) (by omega) (by omega) (by omega) (by omega) (by omega) (by omega) (by omega)) 42)))⟩
theorem jb_given {I : gM} (h : InvB I) (v1 : Int32) : ∃ a b, fX8_given v1 I = some a ∧ fX9_given v1 I = some b ∧ InvB b.2 := by
  obtain ⟨a, b, e1, e2, hI⟩ := all_given h.1 (by omega) v1
  exact ⟨a, b, e1, e2, InvB.mk' hI (h.2.1) (fun q hq => zfX9_given _ _ e2 q (by omega) (by omega) (by omega) (by omega) (by omega) (by omega) (by omega) (by omega)) (h.2.2.keep (xfX9_given _ _ e2 62 17 (by omega) (by omega) (by omega) (by omega) (by omega) (by omega) (by omega) (by omega) (by omega) (by omega)) (xfX9_given _ _ e2 62 42 (by omega) (by omega) (by omega) (by omega) (by omega) (by omega) (by omega) (by omega) (by omega) (by omega)))⟩
theorem jb_without {I : gM} (h : InvB I) (v1 : Int32) : ∃ a b, fX8_without v1 I = some a ∧ fX9_without v1 a.2 = some b ∧ InvB b.2 := by
  obtain ⟨a, b, e1, e2, hI⟩ := all_without h.1 (by omega) v1
  exact ⟨a, b, e1, e2, InvB.mk' hI (jX_without h.2.1 e1) (fun q hq => zfX9_without _ _ e2 q (by omega) (by omega) (by omega) (by omega) (by omega) (by omega) (by omega) (by omega) (by omega)) (h.2.2.keep ((xfX9_without _ _ e2 62 17 (by omega) (by omega) (by omega) (by omega) (by omega) (by omega) (by omega) (by omega) (by omega) (by omega) (by omega)).trans (congrFun (zfX8_without _ _ e1 62 (by omega) (by omega) (by omega) (by omega) (by omega) (by omega) (by omega) (by omega) (by omega) (by omega) (by omega) (by omega) (by omega) (by omega) (by omega) (by omega)) 17)) ((xfX9_without _ _ e2 62 42 (by omega) (by omega) (by omega) (by omega) (by omega) (by omega) (by omega) (by omega) (by omega) (by omega) (by omega)).trans (congrFun (zfX8_without _ _ e1 62 (by omega) (by omega) (by omega) (by omega) (by omega) (by omega) (by omega) (by omega) (by omega) (by omega) (by omega) (by omega) (by omega) (by omega) (by omega) (by omega)) 42)))⟩
theorem jb_projected {I : gM} (h : InvB I) (v1 : Int32) : ∃ a b, fX8_projected v1 I = some a ∧ fX9_projected v1 a.2 = some b ∧ InvB b.2 := by
  obtain ⟨a, b, e1, e2, hI⟩ := all_projected h.1 (by omega) v1
  exact ⟨a, b, e1, e2, InvB.mk' hI (jX_projected h.2.1 e1) (fun q hq => zfX9_projected _ _ e2 q (by omega) (by omega) (by omega) (by omega) (by omega) (by omega) (by omega) (by omega) (by omega) (by omega) (by omega) (by omega)) (h.2.2.keep ((xfX9_projected _ _ e2 62 17 (by omega) (by omega) (by omega) (by omega) (by omega) (by omega) (by omega) (by omega) (by omega) (by omega) (by omega) (by omega) (by omega) (by omega)).trans (congrFun (zfX8_projected _ _ e1 62 (by omega) (by omega) (by omega) (by omega) (by omega) (by omega) (by omega) (by omega) (by omega) (by omega) (by omega)) 17)) ((xfX9_projected _ _ e2 62 42 (by omega) (by omega) (by omega) (by omega) (by omega) (by omega) (by omega) (by omega) (by omega) (by omega) (by omega) (by omega) (by omega) (by omega)).trans (congrFun (zfX8_projected _ _ e1 62 (by omega) (by omega) (by omega) (by omega) (by omega) (by omega) (by omega) (by omega) (by omega) (by omega) (by omega)) 42)))⟩
theorem jb_times {I : gM} (h : InvB I) (v1 : Int32) (v2 : Int32) : ∃ a b, fX8_times v1 v2 I = some a ∧ fX9_times v1 v2 a.2 = some b ∧ InvB b.2 := by
  obtain ⟨a, b, e1, e2, hI⟩ := all_times h.1 (by omega) v1 v2
  exact ⟨a, b, e1, e2, InvB.mk' hI (jX_times h.2.1 e1) (fun q hq => zfX9_times _ _ _ e2 q (by omega) (by omega) (by omega) (by omega) (by omega) (by omega) (by omega) (by omega) (by omega) (by omega) (by omega)) (h.2.2.keep ((xfX9_times _ _ _ e2 62 17 (by omega) (by omega) (by omega) (by omega) (by omega) (by omega) (by omega) (by omega) (by omega) (by omega) (by omega) (by omega) (by omega)).trans (congrFun (zfX8_times _ _ _ e1 62 (by omega)) 17)) ((xfX9_times _ _ _ e2 62 42 (by omega) (by omega) (by omega) (by omega) (by omega) (by omega) (by omega) (by omega) (by omega) (by omega) (by omega) (by omega) (by omega)).trans (congrFun (zfX8_times _ _ _ e1 62 (by omega)) 42)))⟩
theorem jb_distinct {I : gM} (h : InvB I) (v1 : Int32) (v2 : Int32) : ∃ a b, fX8_distinct v1 v2 I = some a ∧ fX9_distinct v1 v2 a.2 = some b ∧ InvB b.2 := by
  obtain ⟨a, b, e1, e2, hI⟩ := all_distinct h.1 (by omega) v1 v2
  exact ⟨a, b, e1, e2, InvB.mk' hI (jX_distinct h.2.1 e1) (fun q hq => zfX9_distinct _ _ _ e2 q (by omega) (by omega) (by omega) (by omega) (by omega) (by omega) (by omega) (by omega) (by omega) (by omega) (by omega)) (h.2.2.keep ((xfX9_distinct _ _ _ e2 62 17 (by omega) (by omega) (by omega) (by omega) (by omega) (by omega) (by omega) (by omega) (by omega) (by omega) (by omega) (by omega) (by omega)).trans (congrFun (zfX8_distinct _ _ _ e1 62 (by omega)) 17)) ((xfX9_distinct _ _ _ e2 62 42 (by omega) (by omega) (by omega) (by omega) (by omega) (by omega) (by omega) (by omega) (by omega) (by omega) (by omega) (by omega) (by omega)).trans (congrFun (zfX8_distinct _ _ _ e1 62 (by omega)) 42)))⟩
theorem jb_tells {I : gM} (h : InvB I) (v1 : Int32) (v2 : Int32) : ∃ a b, fX8_tells v1 v2 I = some a ∧ fX9_tells v1 v2 a.2 = some b ∧ InvB b.2 := by
  obtain ⟨a, b, e1, e2, hI⟩ := all_tells h.1 (by omega) v1 v2
  exact ⟨a, b, e1, e2, InvB.mk' hI (jX_tells h.2.1 e1) (fun q hq => zfX9_tells _ _ _ e2 q (by omega) (by omega) (by omega) (by omega) (by omega) (by omega) (by omega) (by omega) (by omega)) (h.2.2.keep ((xfX9_tells _ _ _ e2 62 17 (by omega) (by omega) (by omega) (by omega) (by omega) (by omega) (by omega) (by omega) (by omega) (by omega) (by omega)).trans (congrFun (zfX8_tells _ _ _ e1 62 (by omega)) 17)) ((xfX9_tells _ _ _ e2 62 42 (by omega) (by omega) (by omega) (by omega) (by omega) (by omega) (by omega) (by omega) (by omega) (by omega) (by omega)).trans (congrFun (zfX8_tells _ _ _ e1 62 (by omega)) 42)))⟩
theorem jb_behind {I : gM} (h : InvB I) (v1 : Int32) (v2 : Int32) (v3 : Int32) (v4 : Int32) : ∃ a b, fX8_behind v1 v2 v3 v4 I = some a ∧ fX9_behind v1 v2 v3 v4 I = some b ∧ InvB b.2 := by
  obtain ⟨a, b, e1, e2, hI⟩ := all_behind h.1 (by omega) v1 v2 v3 v4
  exact ⟨a, b, e1, e2, InvB.mk' hI (h.2.1) (fun q hq => zfX9_behind _ _ _ _ _ e2 q (by omega) (by omega) (by omega) (by omega) (by omega) (by omega) (by omega) (by omega) (by omega)) (h.2.2.keep (xfX9_behind _ _ _ _ _ e2 62 17 (by omega) (by omega) (by omega) (by omega) (by omega) (by omega) (by omega) (by omega) (by omega) (by omega) (by omega)) (xfX9_behind _ _ _ _ _ e2 62 42 (by omega) (by omega) (by omega) (by omega) (by omega) (by omega) (by omega) (by omega) (by omega) (by omega) (by omega)))⟩
theorem jb_has {I : gM} (h : InvB I) (v1 : Int32) (v2 : Int32) (v3 : Int32) (v4 : Int32) : ∃ a b, fX8_has v1 v2 v3 v4 I = some a ∧ fX9_has_ v1 v2 v3 v4 I = some b ∧ InvB b.2 := by
  obtain ⟨a, b, e1, e2, hI⟩ := all_has h.1 (by omega) v1 v2 v3 v4
  exact ⟨a, b, e1, e2, InvB.mk' hI (h.2.1) (fun q hq => zfX9_has_ _ _ _ _ _ e2 q (by omega) (by omega) (by omega) (by omega) (by omega) (by omega) (by omega) (by omega) (by omega)) (h.2.2.keep (xfX9_has_ _ _ _ _ _ e2 62 17 (by omega) (by omega) (by omega) (by omega) (by omega) (by omega) (by omega) (by omega) (by omega) (by omega) (by omega)) (xfX9_has_ _ _ _ _ _ e2 62 42 (by omega) (by omega) (by omega) (by omega) (by omega) (by omega) (by omega) (by omega) (by omega) (by omega) (by omega)))⟩
theorem jb_mean {I : gM} (h : InvB I) (v1 : Int32) : ∃ a b, fX8_mean v1 I = some a ∧ fX9_mean v1 I = some b ∧ InvB b.2 := by
  obtain ⟨a, b, e1, e2, hI⟩ := all_mean h.1 (by omega) v1
  exact ⟨a, b, e1, e2, InvB.mk' hI (h.2.1) (fun q hq => funext fun j => xfX9_mean v1 I e2 q j (by omega) (by omega) (by omega) (by omega) (by omega) (by omega) (by omega) (by omega) (by omega) (by omega)) (h.2.2.keep (xfX9_mean _ _ e2 62 17 (by omega) (by omega) (by omega) (by omega) (by omega) (by omega) (by omega) (by omega) (by omega) (by omega)) (xfX9_mean _ _ e2 62 42 (by omega) (by omega) (by omega) (by omega) (by omega) (by omega) (by omega) (by omega) (by omega) (by omega)))⟩
theorem jb_meanAs {I : gM} (h : InvB I) (v1 : Int32) (v2 : Int32) : ∃ a b, fX8_meanAs v1 v2 I = some a ∧ fX9_meanAs v1 v2 I = some b ∧ InvB b.2 := by
  obtain ⟨a, b, e1, e2, hI⟩ := all_meanAs h.1 (by omega) v1 v2
  exact ⟨a, b, e1, e2, InvB.mk' hI (h.2.1) (fun q hq => funext fun j => xfX9_meanAs v1 v2 I e2 q j (by omega) (by omega) (by omega) (by omega) (by omega) (by omega) (by omega) (by omega) (by omega) (by omega)) (h.2.2.keep (xfX9_meanAs _ _ _ e2 62 17 (by omega) (by omega) (by omega) (by omega) (by omega) (by omega) (by omega) (by omega) (by omega) (by omega)) (xfX9_meanAs _ _ _ e2 62 42 (by omega) (by omega) (by omega) (by omega) (by omega) (by omega) (by omega) (by omega) (by omega) (by omega)))⟩
theorem jb_spread {I : gM} (h : InvB I) (v1 : Int32) : ∃ a b, fX8_spread v1 I = some a ∧ fX9_spread v1 I = some b ∧ InvB b.2 := by
  obtain ⟨a, b, e1, e2, hI⟩ := all_spread h.1 (by omega) v1
  exact ⟨a, b, e1, e2, InvB.mk' hI (h.2.1) (fun q hq => funext fun j => xfX9_spread v1 I e2 q j (by omega) (by omega) (by omega) (by omega) (by omega) (by omega) (by omega) (by omega) (by omega) (by omega)) (h.2.2.keep (xfX9_spread _ _ e2 62 17 (by omega) (by omega) (by omega) (by omega) (by omega) (by omega) (by omega) (by omega) (by omega) (by omega)) (xfX9_spread _ _ e2 62 42 (by omega) (by omega) (by omega) (by omega) (by omega) (by omega) (by omega) (by omega) (by omega) (by omega)))⟩
theorem jb_skew {I : gM} (h : InvB I) (v1 : Int32) : ∃ a b, fX8_skew v1 I = some a ∧ fX9_skew v1 a.2 = some b ∧ InvB b.2 := by
  obtain ⟨a, b, e1, e2, hI⟩ := all_skew h.1 (by omega) v1
  exact ⟨a, b, e1, e2, InvB.mk' hI (jX_skew h.2.1 e1) (fun q hq => funext fun j => xfX9_skew v1 _ e2 q j (by omega) (by omega) (by omega) (by omega) (by omega) (by omega) (by omega) (by omega) (by omega) (by omega) (by omega) (by omega) (by omega)) (h.2.2.keep ((xfX9_skew _ _ e2 62 17 (by omega) (by omega) (by omega) (by omega) (by omega) (by omega) (by omega) (by omega) (by omega) (by omega) (by omega) (by omega) (by omega)).trans (congrFun (zS_skew e1) 17)) ((xfX9_skew _ _ e2 62 42 (by omega) (by omega) (by omega) (by omega) (by omega) (by omega) (by omega) (by omega) (by omega) (by omega) (by omega) (by omega) (by omega)).trans (congrFun (zS_skew e1) 42)))⟩
theorem jb_log {I : gM} (h : InvB I) (v1 : Int32) (v2 : Int32) : ∃ a b, fX8_log v1 v2 I = some a ∧ fX9_log v1 v2 I = some b ∧ InvB I := by
  obtain ⟨a, b, e1, e2, hI⟩ := all_log h.1 (by omega) v1 v2
  exact ⟨a, b, e1, e2, h⟩
theorem jb_would {I : gM} (h : InvB I) (v1 : Int32) (v2 : Int32) (v3 : Int32) (v4 : Int32) (v5 : Int32) : ∃ a b, fX8_would v1 v2 v3 v4 v5 I = some a ∧ fX9_would v1 v2 v3 v4 v5 a.2 = some b ∧ InvB b.2 := by
  obtain ⟨a, b, e1, e2, hI⟩ := all_would h.1 (by omega) v1 v2 v3 v4 v5
  exact ⟨a, b, e1, e2, InvB.mk' hI (jX_would h.2.1 e1) (fun q hq => zfX9_would _ _ _ _ _ _ e2 q (by omega) (by omega) (by omega) (by omega) (by omega) (by omega) (by omega) (by omega) (by omega) (by omega)) (h.2.2.keep ((xfX9_would _ _ _ _ _ _ e2 62 17 (by omega) (by omega) (by omega) (by omega) (by omega) (by omega) (by omega) (by omega) (by omega) (by omega) (by omega) (by omega)).trans (congrFun (zfX8_would _ _ _ _ _ _ e1 62 (by omega) (by omega) (by omega) (by omega) (by omega) (by omega) (by omega) (by omega) (by omega) (by omega) (by omega) (by omega) (by omega) (by omega) (by omega) (by omega)) 17)) ((xfX9_would _ _ _ _ _ _ e2 62 42 (by omega) (by omega) (by omega) (by omega) (by omega) (by omega) (by omega) (by omega) (by omega) (by omega) (by omega) (by omega)).trans (congrFun (zfX8_would _ _ _ _ _ _ e1 62 (by omega) (by omega) (by omega) (by omega) (by omega) (by omega) (by omega) (by omega) (by omega) (by omega) (by omega) (by omega) (by omega) (by omega) (by omega) (by omega)) 42)))⟩
theorem jb_run {I : gM} (h : InvB I) (v1 : Int32) (v2 : Int32) : ∃ a b, fX8_run v1 v2 I = some a ∧ fX9_run v1 v2 a.2 = some b ∧ InvB b.2 := by
  obtain ⟨a, b, e1, e2, hI⟩ := all_run h.1 (by omega) v1 v2
  exact ⟨a, b, e1, e2, InvB.mk' hI (jX_run h.2.1 e1) (fun q hq => zfX9_run _ _ _ e2 q (by omega) (by omega) (by omega) (by omega) (by omega) (by omega) (by omega) (by omega) (by omega) (by omega) (by omega)) (h.2.2.keep ((xfX9_run _ _ _ e2 62 17 (by omega) (by omega) (by omega) (by omega) (by omega) (by omega) (by omega) (by omega) (by omega) (by omega) (by omega) (by omega) (by omega) (by omega)).trans (congrFun (zfX8_run _ _ _ e1 62 (by omega) (by omega) (by omega) (by omega) (by omega) (by omega) (by omega) (by omega) (by omega) (by omega) (by omega) (by omega) (by omega) (by omega) (by omega) (by omega)) 17)) ((xfX9_run _ _ _ e2 62 42 (by omega) (by omega) (by omega) (by omega) (by omega) (by omega) (by omega) (by omega) (by omega) (by omega) (by omega) (by omega) (by omega) (by omega)).trans (congrFun (zfX8_run _ _ _ e1 62 (by omega) (by omega) (by omega) (by omega) (by omega) (by omega) (by omega) (by omega) (by omega) (by omega) (by omega) (by omega) (by omega) (by omega) (by omega) (by omega)) 42)))⟩
theorem jb_most {I : gM} (h : InvB I) (v1 : Int32) : ∃ a b, fX8_most v1 I = some a ∧ fX9_most v1 a.2 = some b ∧ InvB b.2 := by
  obtain ⟨a, b, e1, e2, hI⟩ := all_most h.1 (by omega) v1
  exact ⟨a, b, e1, e2, InvB.mk' hI (jX_most h.2.1 e1) (fun q hq => zfX9_most _ _ e2 q (by omega) (by omega) (by omega) (by omega) (by omega) (by omega) (by omega) (by omega) (by omega)) (h.2.2.keep ((xfX9_most _ _ e2 62 17 (by omega) (by omega) (by omega) (by omega) (by omega) (by omega) (by omega) (by omega) (by omega) (by omega) (by omega) (by omega) (by omega) (by omega)).trans (congrFun (zfX8_most _ _ e1 62 (by omega) (by omega) (by omega) (by omega) (by omega) (by omega) (by omega) (by omega) (by omega) (by omega) (by omega) (by omega) (by omega)) 17)) ((xfX9_most _ _ e2 62 42 (by omega) (by omega) (by omega) (by omega) (by omega) (by omega) (by omega) (by omega) (by omega) (by omega) (by omega) (by omega) (by omega) (by omega)).trans (congrFun (zfX8_most _ _ e1 62 (by omega) (by omega) (by omega) (by omega) (by omega) (by omega) (by omega) (by omega) (by omega) (by omega) (by omega) (by omega) (by omega)) 42)))⟩
