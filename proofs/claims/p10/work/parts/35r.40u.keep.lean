/-! the other calls leave both states as they are -/
/-- the places that the common state speaks of, the tapes apart -/
def KP (q j : Nat) : Prop := (q = 0 ∧ (j = 14 ∨ j = 15)) ∨ (3 ≤ q ∧ q ≤ 7) ∨ (13 ≤ q ∧ q ≤ 17) ∨ (44 ≤ q ∧ q ≤ 49) ∨ (53 ≤ q ∧ q ≤ 61) ∨ (q = 62 ∧ (j = 12 ∨ j = 17 ∨ j = 29 ∨ j = 42)) ∨ (q = 68 ∧ j < 240) ∨ (q = 69 ∧ j < 4) ∨ (70 ≤ q ∧ q ≤ 73) ∨ q = 81 ∨ q = 89
theorem InvA.keepA {C : Nat} {I b : gM} (h : InvA C I) (hC : C ≤ 3) (h0 : Inv0 b) (f : ∀ q j, KP q j → b q j = I q j) : InvA C b := by
  obtain ⟨_, _, _, hSc, S, m, nx, hR⟩ := h
  obtain ⟨g1, g2, g3, _⟩ := h0
  have fk : ∀ q, (∀ j, KP q j) → b q = I q := fun q hq => funext fun j => f q j (hq j)
  have kp : ∀ q, (3 ≤ q ∧ q ≤ 7) ∨ (13 ≤ q ∧ q ≤ 17) ∨ (44 ≤ q ∧ q ≤ 49) ∨ (53 ≤ q ∧ q ≤ 61) ∨ (70 ≤ q ∧ q ≤ 73) ∨ q = 81 ∨ q = 89 → ∀ j, KP q j := fun q hq j => by unfold KP; omega
  have k0 : ∀ j, j = 14 ∨ j = 15 → b 0 j = I 0 j := fun j hj => f 0 j (by unfold KP; omega)
  have k62 : ∀ j, j = 12 ∨ j = 17 ∨ j = 29 ∨ j = 42 → b 62 j = I 62 j := fun j hj => f 62 j (by unfold KP; omega)
  exact ⟨g1, g2, g3, hSc.keep (k0 14 (by omega)) (k62 12 (by omega)) (fun k h1 h2 => fk k (kp k (by omega))) (fun a ha => f 68 a (by unfold KP; omega)) (fun s hs => f 69 s (by unfold KP; omega)), S, m, nx, hR.keep hC (k0 15 (by omega)) (fun k hk => fk k (kp k (by omega))) (fun j hj => k62 j (by omega)) (fun k hk => fk k (kp k (by omega)))⟩
theorem InvA.zero {C : Nat} {I : gM} (h : InvA C I) : Inv0 I := ⟨h.1, h.2.1, h.2.2.1, h.2.2.2.1.1⟩
theorem n_wouldK {I0 I : gM} (hM : MI false I0 I) (v1 v2 v3 v4 v5 : Int32) : T (fX9_would v1 v2 v3 v4 v5 I) (fun r => r.2 70 = I 70) := by
  obtain ⟨n, hn, en⟩ := hM.tn
  unfold fX9_would
  refine t_bindE (tfX9_whyPut v1 v2 v3 v4 I hM) (fun v ev pv => ?_)
  refine t_ite (fun c => ?_) (fun c => t_ret rfl)
  rcases n_in v5 0 1 with ⟨h1, h2, h3⟩ | ⟨h1, h3⟩
  · rw [h3, obs, if_neg (by decide)]
    rw [c] at ev
    obtain ⟨w', hw'⟩ := n_can hM hn en (s := 0) (a := v1) (x := v2) (y := v3) (z := v4) (by unfold fX9_whyNot; rw [if_pos rfl, ev, obs])
    obtain ⟨p, ep, p1, p2, p3⟩ := n_putAside hM
    obtain ⟨vv, g, eg, g1, g2, g3, _⟩ := n_doNow p1 hn (by rw [p3 62 (by omega)]; exact en) (s := 0) (a := v1) (x := v2) (y := v3) (z := v4) (w' := w') (by rw [p3 70 (by omega), p3 72 (by omega)]; exact hw')
    have eg2 : fX9_putsNow v1 v2 v3 v4 p = some (vv, g) := by
      unfold fX9_doNow at eg
      rw [if_pos rfl] at eg
      obtain ⟨r', e1, e2⟩ := ob eg
      rw [e1]; exact e2
    obtain ⟨q, eq, _, q1, _, q3, q4⟩ := n_rowsNow g1
    obtain ⟨b, eb, b1, b2, b3⟩ := n_bringBack q1
    refine t_be ep (t_be eg2 (t_be eq (t_be eb ?_)))
    have ok : b 70 = I 70 := by
      funext a
      rw [b2]
      by_cases c : a < 150
      · rw [if_pos c, q3 88 (by omega) (by omega) (by omega) (by omega) (by omega) (by omega) (by omega) (by omega), g2 88 (by omega)]; exact p2 a c
      · rw [if_neg c, q3 70 (by omega) (by omega) (by omega) (by omega) (by omega) (by omega) (by omega) (by omega), g3, hw'.hi hn a (by omega)]
    exact t_ite (fun c3 => t_ret ok) (fun c3 => t_ret ok)
  · rw [h3, obs, if_pos rfl]; exact t_ret rfl
theorem n_runK {I0 I : gM} (hM : MI false I0 I) (v1 v2 : Int32) : T (fX9_run v1 v2 I) (fun r => r.2 70 = I 70 ∧ r.2 81 = I 81 ∧ r.2 62 29 = I 62 29) := by
  obtain ⟨n, hn, en⟩ := hM.tn
  obtain ⟨m, hm, em⟩ := hM.n (k := 62) (j := 12) (hi := 4) rfl
  unfold fX9_run
  have rf : I 70 = I 70 ∧ I 81 = I 81 ∧ I 62 29 = I 62 29 := ⟨rfl, rfl, rfl⟩
  rcases n_isScript hm em v1 with ⟨t, t1, rfl, e⟩ | ⟨t1, e⟩
  · rw [e, obs, if_neg (by decide), n_areTables hn en, obs]
    by_cases c : n = 0
    · rw [if_pos c, if_pos rfl]; exact t_ret rf
    · rw [if_neg c, if_neg (by decide)]
      rcases n_in v2 0 1 with ⟨h1, h2, h3⟩ | ⟨h1, h3⟩
      · rw [h3, obs, if_neg (by decide)]
        obtain ⟨p, ep, p1, p2, p3⟩ := n_putAside hM
        refine t_be ep (t_bind (n_goSteps0 p1 (by omega)) (fun g pg => ?_))
        obtain ⟨g1, g2, g3⟩ := pg
        obtain ⟨q, _, eq, q1, _, q3, q4⟩ := n_rowsNow g1
        refine t_be eq ?_
        obtain ⟨b, eb, b1, b2, b3⟩ := n_bringBack q1
        refine t_be eb ?_
        have ok : b 70 = I 70 ∧ b 81 = I 81 ∧ b 62 29 = I 62 29 := by
          refine ⟨?_, ?_, ?_⟩
          · funext a
            rw [b2]
            by_cases c : a < 150
            · rw [if_pos c, q3 88 (by omega) (by omega) (by omega) (by omega) (by omega) (by omega) (by omega) (by omega), g2 88 (by omega)]; exact p2 a c
            · rw [if_neg c, q3 70 (by omega) (by omega) (by omega) (by omega) (by omega) (by omega) (by omega) (by omega), g3 a (by omega), p3 70 (by omega)]
          · rw [b3 81 (by omega), q3 81 (by omega) (by omega) (by omega) (by omega) (by omega) (by omega) (by omega) (by omega), g2 81 (by omega), p3 81 (by omega)]
          · rw [b3 62 (by omega), q4 29 (by omega) (by omega) (by omega), g2 62 (by omega), p3 62 (by omega)]
        refine t_ite (fun c2 => t_ret ok) (fun c2 => ?_)
        refine t_be (rI_n (by omega) (by omega)) ?_
        exact t_ite (fun c3 => t_ret ok) (fun c3 => t_ret ok)
      · rw [h3, obs, if_pos rfl]; exact t_ret rf
  · rw [e, obs, if_pos rfl]; exact t_ret rf
theorem n_fault68 {I : gM} {v : Int32} {r : Int32 × gM} (h : fX9_fault v I = some r) : (∀ a, a < 240 → r.2 68 a = I 68 a) ∧ ∀ a, a < 4 → r.2 69 a = I 69 a := by
  unfold fX9_fault at h
  rcases oi h with ⟨_, h⟩ | ⟨_, h⟩
  · obtain ⟨r1, e1, h⟩ := ob h
    obtain rfl := Option.some.inj h
    have f := xfX9_readAll _ e1
    exact ⟨fun a _ => f 68 a (Or.inl (by decide)) (Or.inl (by decide)) (Or.inl (by decide)) (by decide) (by decide) (by decide) (by decide), fun a _ => f 69 a (Or.inl (by decide)) (Or.inl (by decide)) (Or.inl (by decide)) (by decide) (by decide) (by decide) (by decide)⟩
  · rcases oi h with ⟨_, h⟩ | ⟨_, h⟩
    · obtain ⟨r1, e1, h⟩ := ob h
      obtain rfl := Option.some.inj h
      have f := lo_readScript (s := 4) (by omega) e1
      exact ⟨fun a ha => f.1 a (by omega), fun a ha => f.2 a (by omega)⟩
    · obtain rfl := Option.some.inj h
      exact ⟨fun _ _ => rfl, fun _ _ => rfl⟩
theorem all_feed {C : Nat} {I : gM} (h : InvA C I) (hC : C ≤ 3) (v1 v2 v3 v4 v5 : Int32) : ∃ a b, fX8_feed v1 v2 v3 v4 v5 I = some a ∧ fX9_feed v1 v2 v3 v4 v5 a.2 = some b ∧ InvA C b.2 ∧ a.1 = b.1 := by
  obtain ⟨a, b, e1, e2, h0, e⟩ := both_feed h.zero v1 v2 v3 v4 v5
  obtain ⟨v, A, B, f1, f2, _, k1, k2, k3⟩ := feed_both v1 v2 v3 v4 v5 h.2.2.1
  rw [f1] at e1
  obtain rfl := Option.some.inj e1
  rw [f2] at e2
  obtain rfl := Option.some.inj e2
  refine ⟨_, _, f1, f2, h.keepA hC h0 (fun q j hk => ?_), rfl⟩
  unfold KP at hk
  by_cases c : q = 62
  · subst c; exact k3 j (by omega)
  · exact congrFun (k1 q (by omega) (by omega) c (by omega)) j
theorem all_end {C : Nat} {I : gM} (h : InvA C I) (hC : C ≤ 3) (v : Int32) : ∃ a b, fX8_end v I = some a ∧ fX9_end v a.2 = some b ∧ InvA C b.2 ∧ a.1 = b.1 := by
  obtain ⟨a, b, e1, e2, h0, e⟩ := both_end h.zero v
  have f8 := xfX8_end _ _ e1
  have f9 := xfX9_end _ _ e2
  refine ⟨a, b, e1, e2, h.keepA hC h0 (fun q j hk => ?_), e⟩
  unfold KP at hk
  exact (f9 q j (by omega)).trans (f8 q j (by omega))
theorem all_fault {C : Nat} {I : gM} (h : InvA C I) (hC : C ≤ 3) (v1 : Int32) : ∃ a b, fX8_fault v1 I = some a ∧ fX9_fault v1 a.2 = some b ∧ InvA C b.2 := by
  obtain ⟨a, b, e1, e2, h0⟩ := both_fault h.zero v1
  have b68 := n_fault68 e2
  have f8 := xfX8_fault _ _ e1
  have f9 := xfX9_fault _ _ e2
  refine ⟨a, b, e1, e2, h.keepA hC h0 (fun q j hk => ?_)⟩
  unfold KP at hk
  by_cases c68 : q = 68
  · subst c68
    rw [b68.1 j (by omega)]
    exact f8 68 j (by omega) (by omega) (by omega) (by omega) (by omega) (by omega) (by omega) (by omega) (by omega) (by omega)
  by_cases c69 : q = 69
  · subst c69
    rw [b68.2 j (by omega)]
    exact f8 69 j (by omega) (by omega) (by omega) (by omega) (by omega) (by omega) (by omega) (by omega) (by omega) (by omega)
  exact (f9 q j (by omega) (by omega) (by omega) (by omega) (by omega) (by omega) (by omega) (by omega) (by omega)).trans (f8 q j (by omega) (by omega) (by omega) (by omega) (by omega) (by omega) (by omega) (by omega) (by omega) (by omega))
theorem all_rows {C : Nat} {I : gM} (h : InvA C I) (hC : C ≤ 3) : ∃ a b, fX8_rows I = some a ∧ fX9_rows I = some b ∧ InvA C b.2 := by
  obtain ⟨a, b, e1, e2, h0⟩ := both_rows h.zero 
  have f9 := xfX9_rows _ e2
  refine ⟨a, b, e1, e2, h.keepA hC h0 (fun q j hk => ?_)⟩
  unfold KP at hk
  exact f9 q j (by omega) (by omega) (by omega) (by omega) (by omega) (by omega) (by omega) (by omega) (by omega) (by omega)
theorem all_row {C : Nat} {I : gM} (h : InvA C I) (hC : C ≤ 3) (v1 : Int32) (v2 : Int32) : ∃ a b, fX8_row v1 v2 I = some a ∧ fX9_row v1 v2 I = some b ∧ InvA C b.2 := by
  obtain ⟨a, b, e1, e2, h0⟩ := both_row h.zero v1 v2
  have f9 := xfX9_row _ _ _ e2
  refine ⟨a, b, e1, e2, h.keepA hC h0 (fun q j hk => ?_)⟩
  unfold KP at hk
  exact f9 q j (by omega) (by omega) (by omega) (by omega) (by omega) (by omega) (by omega) (by omega) (by omega) (by omega)
theorem all_leaps {C : Nat} {I : gM} (h : InvA C I) (hC : C ≤ 3) : ∃ a b, fX8_leaps I = some a ∧ fX9_leaps_ I = some b ∧ InvA C b.2 := by
  obtain ⟨a, b, e1, e2, h0⟩ := both_leaps h.zero 
  have f9 := xfX9_leaps_ _ e2
  refine ⟨a, b, e1, e2, h.keepA hC h0 (fun q j hk => ?_)⟩
  unfold KP at hk
  exact f9 q j (by omega) (by omega) (by omega) (by omega) (by omega) (by omega) (by omega) (by omega) (by omega) (by omega)
theorem all_beginnings {C : Nat} {I : gM} (h : InvA C I) (hC : C ≤ 3) (v1 : Int32) : ∃ a b, fX8_beginnings v1 I = some a ∧ fX9_beginnings v1 I = some b ∧ InvA C b.2 := by
  obtain ⟨a, b, e1, e2, h0⟩ := both_beginnings h.zero v1
  have f9 := xfX9_beginnings _ _ e2
  refine ⟨a, b, e1, e2, h.keepA hC h0 (fun q j hk => ?_)⟩
  unfold KP at hk
  exact f9 q j (by omega) (by omega) (by omega) (by omega) (by omega) (by omega) (by omega) (by omega) (by omega) (by omega)
theorem all_best {C : Nat} {I : gM} (h : InvA C I) (hC : C ≤ 3) (v1 : Int32) : ∃ a b, fX8_best v1 I = some a ∧ fX9_best v1 a.2 = some b ∧ InvA C b.2 := by
  obtain ⟨a, b, e1, e2, h0⟩ := both_best h.zero v1
  have f8 := xfX8_best _ _ e1
  have f9 := xfX9_best _ _ e2
  refine ⟨a, b, e1, e2, h.keepA hC h0 (fun q j hk => ?_)⟩
  unfold KP at hk
  exact (f9 q j (by omega) (by omega) (by omega) (by omega) (by omega) (by omega) (by omega) (by omega) (by omega) (by omega) (by omega) (by omega) (by omega)).trans (f8 q j (by omega) (by omega) (by omega) (by omega) (by omega) (by omega) (by omega) (by omega) (by omega) (by omega) (by omega) (by omega) (by omega) (by omega) (by omega) (by omega) (by omega))
theorem all_given {C : Nat} {I : gM} (h : InvA C I) (hC : C ≤ 3) (v1 : Int32) : ∃ a b, fX8_given v1 I = some a ∧ fX9_given v1 I = some b ∧ InvA C b.2 := by
  obtain ⟨a, b, e1, e2, h0⟩ := both_given h.zero v1
  have f9 := xfX9_given _ _ e2
  refine ⟨a, b, e1, e2, h.keepA hC h0 (fun q j hk => ?_)⟩
  unfold KP at hk
  exact f9 q j (by omega) (by omega) (by omega) (by omega) (by omega) (by omega) (by omega) (by omega) (by omega) (by omega)
theorem all_without {C : Nat} {I : gM} (h : InvA C I) (hC : C ≤ 3) (v1 : Int32) : ∃ a b, fX8_without v1 I = some a ∧ fX9_without v1 a.2 = some b ∧ InvA C b.2 := by
  obtain ⟨a, b, e1, e2, h0⟩ := both_without h.zero v1
  have b70 := n_without70 e2
  have f8 := xfX8_without _ _ e1
  have f9 := xfX9_without _ _ e2
  refine ⟨a, b, e1, e2, h.keepA hC h0 (fun q j hk => ?_)⟩
  unfold KP at hk
  by_cases c70 : q = 70
  · subst c70
    rw [b70]
    exact f8 70 j (by omega) (by omega) (by omega) (by omega) (by omega) (by omega) (by omega) (by omega) (by omega) (by omega) (by omega) (by omega) (by omega) (by omega) (by omega) (by omega) (by omega) (by omega) (by omega) (by omega)
  exact (f9 q j (by omega) (by omega) (by omega) (by omega) (by omega) (by omega) (by omega) (by omega) (by omega) (by omega) (by omega)).trans (f8 q j (by omega) (by omega) (by omega) (by omega) (by omega) (by omega) (by omega) (by omega) (by omega) (by omega) (by omega) (by omega) (by omega) (by omega) (by omega) (by omega) (by omega) (by omega) (by omega) (by omega))
theorem all_projected {C : Nat} {I : gM} (h : InvA C I) (hC : C ≤ 3) (v1 : Int32) : ∃ a b, fX8_projected v1 I = some a ∧ fX9_projected v1 a.2 = some b ∧ InvA C b.2 := by
  obtain ⟨a, b, e1, e2, h0⟩ := both_projected h.zero v1
  have f8 := xfX8_projected _ _ e1
  have f9 := xfX9_projected _ _ e2
  refine ⟨a, b, e1, e2, h.keepA hC h0 (fun q j hk => ?_)⟩
  unfold KP at hk
  exact (f9 q j (by omega) (by omega) (by omega) (by omega) (by omega) (by omega) (by omega) (by omega) (by omega) (by omega) (by omega) (by omega) (by omega) (by omega)).trans (f8 q j (by omega) (by omega) (by omega) (by omega) (by omega) (by omega) (by omega) (by omega) (by omega) (by omega) (by omega) (by omega) (by omega))
theorem all_times {C : Nat} {I : gM} (h : InvA C I) (hC : C ≤ 3) (v1 : Int32) (v2 : Int32) : ∃ a b, fX8_times v1 v2 I = some a ∧ fX9_times v1 v2 a.2 = some b ∧ InvA C b.2 := by
  obtain ⟨a, b, e1, e2, h0⟩ := both_times h.zero v1 v2
  have f8 := xfX8_times _ _ _ e1
  have f9 := xfX9_times _ _ _ e2
  refine ⟨a, b, e1, e2, h.keepA hC h0 (fun q j hk => ?_)⟩
  unfold KP at hk
  exact (f9 q j (by omega) (by omega) (by omega) (by omega) (by omega) (by omega) (by omega) (by omega) (by omega) (by omega) (by omega) (by omega) (by omega)).trans (f8 q j (by omega))
theorem all_distinct {C : Nat} {I : gM} (h : InvA C I) (hC : C ≤ 3) (v1 : Int32) (v2 : Int32) : ∃ a b, fX8_distinct v1 v2 I = some a ∧ fX9_distinct v1 v2 a.2 = some b ∧ InvA C b.2 := by
  obtain ⟨a, b, e1, e2, h0⟩ := both_distinct h.zero v1 v2
  have f8 := xfX8_distinct _ _ _ e1
  have f9 := xfX9_distinct _ _ _ e2
  refine ⟨a, b, e1, e2, h.keepA hC h0 (fun q j hk => ?_)⟩
  unfold KP at hk
  exact (f9 q j (by omega) (by omega) (by omega) (by omega) (by omega) (by omega) (by omega) (by omega) (by omega) (by omega) (by omega) (by omega) (by omega)).trans (f8 q j (by omega))
theorem all_tells {C : Nat} {I : gM} (h : InvA C I) (hC : C ≤ 3) (v1 : Int32) (v2 : Int32) : ∃ a b, fX8_tells v1 v2 I = some a ∧ fX9_tells v1 v2 a.2 = some b ∧ InvA C b.2 := by
  obtain ⟨a, b, e1, e2, h0⟩ := both_tells h.zero v1 v2
  have f8 := xfX8_tells _ _ _ e1
  have f9 := xfX9_tells _ _ _ e2
  refine ⟨a, b, e1, e2, h.keepA hC h0 (fun q j hk => ?_)⟩
  unfold KP at hk
  exact (f9 q j (by omega) (by omega) (by omega) (by omega) (by omega) (by omega) (by omega) (by omega) (by omega) (by omega) (by omega)).trans (f8 q j (by omega))
theorem all_behind {C : Nat} {I : gM} (h : InvA C I) (hC : C ≤ 3) (v1 : Int32) (v2 : Int32) (v3 : Int32) (v4 : Int32) : ∃ a b, fX8_behind v1 v2 v3 v4 I = some a ∧ fX9_behind v1 v2 v3 v4 I = some b ∧ InvA C b.2 := by
  obtain ⟨a, b, e1, e2, h0⟩ := both_behind h.zero v1 v2 v3 v4
  have f9 := xfX9_behind _ _ _ _ _ e2
  refine ⟨a, b, e1, e2, h.keepA hC h0 (fun q j hk => ?_)⟩
  unfold KP at hk
  exact f9 q j (by omega) (by omega) (by omega) (by omega) (by omega) (by omega) (by omega) (by omega) (by omega) (by omega) (by omega)
theorem all_has {C : Nat} {I : gM} (h : InvA C I) (hC : C ≤ 3) (v1 : Int32) (v2 : Int32) (v3 : Int32) (v4 : Int32) : ∃ a b, fX8_has v1 v2 v3 v4 I = some a ∧ fX9_has_ v1 v2 v3 v4 I = some b ∧ InvA C b.2 := by
  obtain ⟨a, b, e1, e2, h0⟩ := both_has h.zero v1 v2 v3 v4
  have f9 := xfX9_has_ _ _ _ _ _ e2
  refine ⟨a, b, e1, e2, h.keepA hC h0 (fun q j hk => ?_)⟩
  unfold KP at hk
  exact f9 q j (by omega) (by omega) (by omega) (by omega) (by omega) (by omega) (by omega) (by omega) (by omega) (by omega) (by omega)
theorem all_mean {C : Nat} {I : gM} (h : InvA C I) (hC : C ≤ 3) (v1 : Int32) : ∃ a b, fX8_mean v1 I = some a ∧ fX9_mean v1 I = some b ∧ InvA C b.2 := by
  obtain ⟨a, b, e1, e2, h0⟩ := both_mean h.zero v1
  have f9 := xfX9_mean _ _ e2
  refine ⟨a, b, e1, e2, h.keepA hC h0 (fun q j hk => ?_)⟩
  unfold KP at hk
  exact f9 q j (by omega) (by omega) (by omega) (by omega) (by omega) (by omega) (by omega) (by omega) (by omega) (by omega)
theorem all_meanAs {C : Nat} {I : gM} (h : InvA C I) (hC : C ≤ 3) (v1 : Int32) (v2 : Int32) : ∃ a b, fX8_meanAs v1 v2 I = some a ∧ fX9_meanAs v1 v2 I = some b ∧ InvA C b.2 := by
  obtain ⟨a, b, e1, e2, h0⟩ := both_meanAs h.zero v1 v2
  have f9 := xfX9_meanAs _ _ _ e2
  refine ⟨a, b, e1, e2, h.keepA hC h0 (fun q j hk => ?_)⟩
  unfold KP at hk
  exact f9 q j (by omega) (by omega) (by omega) (by omega) (by omega) (by omega) (by omega) (by omega) (by omega) (by omega)
theorem all_spread {C : Nat} {I : gM} (h : InvA C I) (hC : C ≤ 3) (v1 : Int32) : ∃ a b, fX8_spread v1 I = some a ∧ fX9_spread v1 I = some b ∧ InvA C b.2 := by
  obtain ⟨a, b, e1, e2, h0⟩ := both_spread h.zero v1
  have f9 := xfX9_spread _ _ e2
  refine ⟨a, b, e1, e2, h.keepA hC h0 (fun q j hk => ?_)⟩
  unfold KP at hk
  exact f9 q j (by omega) (by omega) (by omega) (by omega) (by omega) (by omega) (by omega) (by omega) (by omega) (by omega)
theorem all_skew {C : Nat} {I : gM} (h : InvA C I) (hC : C ≤ 3) (v1 : Int32) : ∃ a b, fX8_skew v1 I = some a ∧ fX9_skew v1 a.2 = some b ∧ InvA C b.2 := by
  obtain ⟨a, b, e1, e2, h0⟩ := both_skew h.zero v1
  obtain ⟨a', e1', _, hk8⟩ := t_skew8 v1 I h.1
  rw [e1] at e1'
  obtain rfl := Option.some.inj e1'
  have f9 := xfX9_skew _ _ e2
  refine ⟨a, b, e1, e2, h.keepA hC h0 (fun q j hk => ?_)⟩
  unfold KP at hk
  exact (f9 q j (by omega) (by omega) (by omega) (by omega) (by omega) (by omega) (by omega) (by omega) (by omega) (by omega) (by omega) (by omega) (by omega)).trans (congrFun (hk8 q (by omega)) j)
theorem all_log {C : Nat} {I : gM} (h : InvA C I) (hC : C ≤ 3) (v1 : Int32) (v2 : Int32) : ∃ a b, fX8_log v1 v2 I = some a ∧ fX9_log v1 v2 I = some b ∧ InvA C I := by
  obtain ⟨a, b, e1, e2, _⟩ := both_log h.zero v1 v2
  exact ⟨a, b, e1, e2, h⟩
theorem all_would {C : Nat} {I : gM} (h : InvA C I) (hC : C ≤ 3) (v1 : Int32) (v2 : Int32) (v3 : Int32) (v4 : Int32) (v5 : Int32) : ∃ a b, fX8_would v1 v2 v3 v4 v5 I = some a ∧ fX9_would v1 v2 v3 v4 v5 a.2 = some b ∧ InvA C b.2 := by
  obtain ⟨a, b, e1, e2, h0⟩ := both_would h.zero v1 v2 v3 v4 v5
  obtain ⟨a', e1', hMa⟩ := tfX8_would v1 v2 v3 v4 v5 I h.1
  rw [e1] at e1'
  obtain rfl := Option.some.inj e1'
  obtain ⟨b', e2', b70⟩ := n_wouldK (I0 := a.2) hMa.re v1 v2 v3 v4 v5
  rw [e2] at e2'
  obtain rfl := Option.some.inj e2'
  have f8 := xfX8_would _ _ _ _ _ _ e1
  have f9 := xfX9_would _ _ _ _ _ _ e2
  refine ⟨a, b, e1, e2, h.keepA hC h0 (fun q j hk => ?_)⟩
  unfold KP at hk
  by_cases c70 : q = 70
  · subst c70
    rw [b70]
    exact f8 70 j (by omega) (by omega) (by omega) (by omega) (by omega) (by omega) (by omega) (by omega) (by omega) (by omega) (by omega) (by omega) (by omega) (by omega) (by omega) (by omega) (by omega) (by omega) (by omega) (by omega)
  exact (f9 q j (by omega) (by omega) (by omega) (by omega) (by omega) (by omega) (by omega) (by omega) (by omega) (by omega) (by omega) (by omega)).trans (f8 q j (by omega) (by omega) (by omega) (by omega) (by omega) (by omega) (by omega) (by omega) (by omega) (by omega) (by omega) (by omega) (by omega) (by omega) (by omega) (by omega) (by omega) (by omega) (by omega) (by omega))
theorem all_run {C : Nat} {I : gM} (h : InvA C I) (hC : C ≤ 3) (v1 : Int32) (v2 : Int32) : ∃ a b, fX8_run v1 v2 I = some a ∧ fX9_run v1 v2 a.2 = some b ∧ InvA C b.2 := by
  obtain ⟨a, b, e1, e2, h0⟩ := both_run h.zero v1 v2
  obtain ⟨a', e1', hMa⟩ := tfX8_run v1 v2 I h.1
  rw [e1] at e1'
  obtain rfl := Option.some.inj e1'
  obtain ⟨b', e2', b70, b81, b29⟩ := n_runK (I0 := a.2) hMa.re v1 v2
  rw [e2] at e2'
  obtain rfl := Option.some.inj e2'
  have f8 := xfX8_run _ _ _ e1
  have f9 := xfX9_run _ _ _ e2
  refine ⟨a, b, e1, e2, h.keepA hC h0 (fun q j hk => ?_)⟩
  unfold KP at hk
  by_cases c70 : q = 70
  · subst c70
    rw [b70]
    exact f8 70 j (by omega) (by omega) (by omega) (by omega) (by omega) (by omega) (by omega) (by omega) (by omega) (by omega) (by omega) (by omega) (by omega) (by omega) (by omega) (by omega) (by omega) (by omega) (by omega) (by omega)
  by_cases c81 : q = 81
  · subst c81
    rw [b81]
    exact f8 81 j (by omega) (by omega) (by omega) (by omega) (by omega) (by omega) (by omega) (by omega) (by omega) (by omega) (by omega) (by omega) (by omega) (by omega) (by omega) (by omega) (by omega) (by omega) (by omega) (by omega)
  by_cases c29 : q = 62 ∧ j = 29
  · rw [c29.1, c29.2, b29]
    exact f8 62 29 (by omega) (by omega) (by omega) (by omega) (by omega) (by omega) (by omega) (by omega) (by omega) (by omega) (by omega) (by omega) (by omega) (by omega) (by omega) (by omega) (by omega) (by omega) (by omega) (by omega)
  exact (f9 q j (by omega) (by omega) (by omega) (by omega) (by omega) (by omega) (by omega) (by omega) (by omega) (by omega) (by omega) (by omega) (by omega) (by omega)).trans (f8 q j (by omega) (by omega) (by omega) (by omega) (by omega) (by omega) (by omega) (by omega) (by omega) (by omega) (by omega) (by omega) (by omega) (by omega) (by omega) (by omega) (by omega) (by omega) (by omega) (by omega))
theorem all_most {C : Nat} {I : gM} (h : InvA C I) (hC : C ≤ 3) (v1 : Int32) : ∃ a b, fX8_most v1 I = some a ∧ fX9_most v1 a.2 = some b ∧ InvA C b.2 := by
  obtain ⟨a, b, e1, e2, h0⟩ := both_most h.zero v1
  have f8 := xfX8_most _ _ e1
  have f9 := xfX9_most _ _ e2
  refine ⟨a, b, e1, e2, h.keepA hC h0 (fun q j hk => ?_)⟩
  unfold KP at hk
  exact (f9 q j (by omega) (by omega) (by omega) (by omega) (by omega) (by omega) (by omega) (by omega) (by omega) (by omega) (by omega) (by omega) (by omega) (by omega)).trans (f8 q j (by omega) (by omega) (by omega) (by omega) (by omega) (by omega) (by omega) (by omega) (by omega) (by omega) (by omega) (by omega) (by omega) (by omega) (by omega) (by omega) (by omega) (by omega))
