/-! would, run: acts on the tables beside, the reference's ones put aside -/
theorem RT.of {I r : gM} {w w' : Nat → Int32} {A : aT} (hW : WF A) (h : RT I w A) (h62 : r 62 = I 62) (h72 : r 72 = I 72) (h73 : r 73 = I 73) (hw : ∀ x, x < 150 → w' x = w x) : RT r w' A := h.cong (by rw [h62]) h72 h73 hW.1 hW.k12 hw
/-- a step that both refuse alike, or do: the class on the tables at k, the reference on its rows now -/
theorem step_two {I0 M R0 R : gM} {k : Nat} {A : aT} (hk : kX5 k) (hM : MI true I0 M) (hM9 : MI false R0 R) (hW : WF A) (hC : CT M k A) (hR : RT R (R 70) A) {s : Nat} (hs : s < 4) (num x y z : Int32) (h2 : 2 ≤ s → x = -1 ∧ y = -1 ∧ z = -1) :
    (∃ r, r ≠ -1 ∧ fX5_refusal k (nI s) num x y z M = some r ∧ fX9_whyNot (nI s) num x y z R = some r) ∨
    (∃ A' q r v b, fX5_refusal k (nI s) num x y z M = some (-1) ∧ fX9_whyNot (nI s) num x y z R = some (-1) ∧ fX5_packed x y z = some q ∧ fX5_change k (nI s) num q M = some r ∧ fX9_doNow (nI s) num x y z R = some (v, b) ∧ WF A' ∧ A'.1.length = A.1.length ∧ MI true I0 r ∧ CT r k A' ∧ Fk k M r ∧ MI false R0 b ∧ RT b (b 70) A' ∧ (∀ q, q ≠ 70 → b q = R q)) := by
  obtain ⟨r, e1, e2, _, _⟩ := why_two (k := k) (by have := hk.2.1; omega) hM hM9 hW hC hR hs num x y z
  by_cases hr : r = -1
  · subst hr
    refine Or.inr ?_
    obtain ⟨w', hact9⟩ := n_can hM9.re hW.1 hR.1 e2
    obtain ⟨A', hact, hR', hw'⟩ := act_abs hW hR hact9
    have hkn : kn x < 128 ∧ kn y < 128 ∧ kn z < 128 := by
      rcases Nat.lt_or_ge s 2 with c | c
      · rcases hact with ⟨_, _, _, _, _, _, q, _⟩ | ⟨_, _, _, _, _, q, _⟩ | ⟨q, _⟩ | ⟨q, _, _⟩
        · exact (row_k q).2.1
        · exact (row_k q).2.1
        · have := nI_inj (b := 2) q (by omega) (by omega)
          omega
        · rename_i q2 _ _
          rcases (by omega : s = 0 ∨ s = 1) with rfl | rfl
          · exact absurd rfl q
          · exact absurd rfl (by assumption)
      · obtain ⟨f1, f2, f3⟩ := h2 c
        rw [f1, f2, f3]; decide
    obtain ⟨r, er, C', F'⟩ := c_change hW hC hact
    obtain ⟨v, b, eb, Mb, bk, b70, _⟩ := n_doNow hM9 hW.1 hR.1 hact9
    have Mr : MI true I0 r := by
      obtain ⟨p, ep, hp⟩ := tfX5_change k (nI s) num (nI (kyz x y z)) M hk hM
      rw [er] at ep
      obtain rfl := Option.some.inj ep
      exact hp
    have hWA := hW.act hact
    exact ⟨A', _, r, v, b, e1, e2, n_packed hkn.1 hkn.2.1 hkn.2.2, er, eb, hWA, nI_inj (hR'.1.symm.trans hR.1) (by have := hWA.1; omega) (by have := hW.1; omega), Mr, C', F', Mb, RT.of hWA (by rw [← b70] at hR'; exact hR') (bk 62 (by omega)) (bk 72 (by omega)) (bk 73 (by omega)) (fun _ _ => rfl), bk⟩
  · exact Or.inl ⟨r, hr, e1, e2⟩
theorem eq_would {I : gM} (h : InvB I) {v1 v2 v3 v4' v5 : Int32} {a b : Int32 × gM} (e1 : fX8_would v1 v2 v3 v4' v5 I = some a) (e2 : fX9_would v1 v2 v3 v4' v5 a.2 = some b) : a.1 = b.1 := by
  obtain ⟨A, hW, hC, hR⟩ := h.tab
  have hMa : MI true I a.2 := by
    obtain ⟨p, ep, hp⟩ := tfX8_would v1 v2 v3 v4' v5 I h.1.1
    rw [e1] at ep
    obtain rfl := Option.some.inj ep
    exact hp
  have hRa := hR.hi hMa hW
  obtain ⟨r2, er2, C2, k2, k2'⟩ := c_copyT (k := 8) (k1 := 3) (by omega) hW hC
  have M2 : MI true I r2 := by
    obtain ⟨p, ep, hp⟩ := tfX5_copyFrom 8 3 I kX5_8 kX5_3 h.1.1
    rw [er2] at ep
    obtain rfl := Option.some.inj ep
    exact hp
  obtain ⟨p, ep, p1, p2, p3⟩ := n_putAside (I0 := a.2) (I := a.2) hMa.re
  have Rp : RT p (p 70) A := hRa.of hW (p3 62 (by omega)) (p3 72 (by omega)) (p3 73 (by omega)) (fun x _ => by rw [p3 70 (by omega)])
  have hwhy : ∀ r, fX9_whyNot (nI 0) v1 v2 v3 v4' p = some r → fX9_whyPut v1 v2 v3 v4' a.2 = some r := fun r e => by
    rw [why_cong (I := a.2) (by rw [p3 62 (by omega)]) (p3 70 (by omega)) (p3 72 (by omega))] at e
    unfold fX9_whyNot at e
    rw [if_pos (show nI 0 = 0 from rfl)] at e
    obtain ⟨q, eq, e⟩ := ob e
    rw [eq]; exact e
  have href : ∀ r, fX5_refusal 8 (nI 0) v1 v2 v3 v4' r2 = some r → fX5_refusal 3 0 v1 v2 v3 v4' I = some r := fun r e => by
    obtain ⟨q, z1, z2, _, _⟩ := why_two (k := 3) (by omega) h.1.1 p1 hW hC Rp (s := 0) (by omega) v1 v2 v3 v4'
    obtain ⟨q', y1, y2, _, _⟩ := why_two (k := 8) (by omega) M2 p1 hW C2 Rp (s := 0) (by omega) v1 v2 v3 v4'
    rw [z2] at y2
    rw [e] at y1
    cases y1; cases y2
    exact z1
  unfold fX8_would at e1
  unfold fX9_would at e2
  rcases step_two kX5_8 M2 p1 hW C2 Rp (s := 0) (by omega) v1 v2 v3 v4' (fun q => absurd q (by omega)) with ⟨r, hr, f1, f2⟩ | ⟨A', q, r, v, g, f1, f2, f3, f4, f5, W', n', Mr, C', F', Mg, Rg, gk⟩
  · rw [hwhy _ f2, obs, if_neg hr] at e2
    obtain rfl := Option.some.inj e2
    rcases oi e1 with ⟨_, e1⟩ | ⟨_, e1⟩
    · obtain rfl := Option.some.inj e1; rfl
    · rcases oi e1 with ⟨_, e1⟩ | ⟨_, e1⟩
      · obtain rfl := Option.some.inj e1; rfl
      · rw [href _ f1, obs, if_neg hr] at e1
        obtain rfl := Option.some.inj e1; rfl
  · rw [hwhy _ f2, obs, if_pos rfl] at e2
    have t0 : (0 : Int32).toInt = 0 := by decide
    have t1 : (1 : Int32).toInt = 1 := by decide
    rcases oi e1 with ⟨c, e1⟩ | ⟨c, e1⟩
    · rw [Int32.lt_iff_toInt_lt, t0] at c
      rcases n_in v5 0 1 with ⟨h1, h2, h3⟩ | ⟨h1, h3⟩
      · omega
      · rw [h3, obs, if_pos rfl] at e2
        cases e1; cases e2; rfl
    · rw [Int32.lt_iff_toInt_lt, t0] at c
      rcases oi e1 with ⟨d, e1⟩ | ⟨d, e1⟩
      · rw [Int32.lt_iff_toInt_lt, t1] at d
        rcases n_in v5 0 1 with ⟨h1, h2, h3⟩ | ⟨h1, h3⟩
        · omega
        · rw [h3, obs, if_pos rfl] at e2
          cases e1; cases e2; rfl
      · rw [Int32.lt_iff_toInt_lt, t1] at d
        rw [href _ f1, obs, if_pos rfl, er2, obs, f3, obs, show fX5_change 8 (0 : Int32) v1 q r2 = some r from f4, obs] at e1
        rcases n_in v5 0 1 with ⟨h1, h2, h3⟩ | ⟨h1, h3⟩
        · have eg : fX9_putsNow v1 v2 v3 v4' p = some (v, g) := by
            unfold fX9_doNow at f5
            rw [if_pos (show nI 0 = 0 from rfl)] at f5
            obtain ⟨r', z1, z2⟩ := ob f5
            rw [z1]; exact z2
          rw [h3, obs, if_neg (by decide), ep, obs, eg, obs] at e2
          have n0 : 0 < A'.1.length := by
            rw [n']
            rcases Nat.eq_zero_or_pos A.1.length with z | z
            · exfalso
              obtain ⟨w', q⟩ := n_can p1.re hW.1 Rp.1 f2
              rcases q with ⟨_, t, _, _, ht, _⟩ | ⟨q, _⟩ | ⟨q, _⟩ | ⟨q, _⟩
              · omega
              · exact absurd q (by decide)
              · exact absurd q (by decide)
              · exact absurd rfl q
            · exact z
          have z33 : r (29 + 4) 0 = 0 := by
            rw [F'.1 (29 + 4) (by omega), k2 (29 + 4) (by omega)]
            exact h.2.1.2.1
          obtain ⟨M', R', J, g1, g2, o, _⟩ := find_now (I0 := I) (k := 29) (k1 := 8) (by omega) Mg W' n0 C' Rg z33
          rw [g1, obs] at e1
          rw [g2, obs] at e2
          obtain ⟨r6, e6, e2⟩ := ob e2
          have k62 : r6 62 = R' 62 := zfX9_bringBack _ e6 62 (by omega)
          rw [k62] at e2
          rcases oi e1 with ⟨c5, e1⟩ | ⟨c5, e1⟩
          · rw [if_pos c5] at e2
            cases e1; cases e2
            exact o.1.trans o.2.1.symm
          · rw [if_neg c5] at e2
            cases e1; cases e2
            exact o.2.2.1
        · exact absurd ⟨by omega, by omega⟩ h1
/-- the steps of a script on the tables beside -/
theorem rh_end {k k1 i n : Nat} {M : gM} (e : M k 0 = nI n) (h : n ≤ i) (hn : n ≤ 12) (hi : i ≤ 12) : lX4_rehearse_2 k k1 (nI i, M) = some (.inr M) := by
  unfold lX4_rehearse_2
  rw [itO_eq]; dsimp only
  rw [if_pos (show M k 0 ≤ nI i by rw [e]; exact (nI_leI (by omega) (by omega)).mpr h), obs]; rfl
theorem rh_step {k k1 i n : Nat} {M : gM} (e : M k 0 = nI n) (h : i < n) (hn : n ≤ 12) : lX4_rehearse_2 k k1 (nI i, M) = (fX5_refusal k1 (M (k + 1) (5 * i)) (M (k + 1) (5 * i + 1)) (M (k + 1) (5 * i + 2)) (M (k + 1) (5 * i + 3)) (M (k + 1) (5 * i + 4)) M).bind fun r6 => if r6 = -1 then (fX5_packed (M (k + 1) (5 * i + 2)) (M (k + 1) (5 * i + 3)) (M (k + 1) (5 * i + 4))).bind fun r7 => (fX5_change k1 (M (k + 1) (5 * i)) (M (k + 1) (5 * i + 1)) r7 M).bind fun r8 => lX4_rehearse_2 k k1 (nI (i + 1), r8) else some (.inl (nI i, M)) := by
  conv => lhs; unfold lX4_rehearse_2
  rw [itO_eq]; dsimp only
  have p0 : fX4_partOf k (nI i) 0 M = some (M (k + 1) (5 * i)) := partOf_n (k := k) (i := i) (c := 0) (M := M) (by omega)
  have p1 : fX4_partOf k (nI i) 1 M = some (M (k + 1) (5 * i + 1)) := partOf_n (k := k) (i := i) (c := 1) (M := M) (by omega)
  have p2 : fX4_partOf k (nI i) 2 M = some (M (k + 1) (5 * i + 2)) := partOf_n (k := k) (i := i) (c := 2) (M := M) (by omega)
  have p3 : fX4_partOf k (nI i) 3 M = some (M (k + 1) (5 * i + 3)) := partOf_n (k := k) (i := i) (c := 3) (M := M) (by omega)
  have p4 : fX4_partOf k (nI i) 4 M = some (M (k + 1) (5 * i + 4)) := partOf_n (k := k) (i := i) (c := 4) (M := M) (by omega)
  rw [if_neg (show ¬ M k 0 ≤ nI i by rw [e]; exact mt (nI_leI (by omega) (by omega)).mp (by omega)), p0, obs, p1, obs, p2, obs, p3, obs, p4, obs, nI_1]
  generalize fX5_refusal _ _ _ _ _ _ M = o
  cases o with
  | none => rfl
  | some r6 =>
    rw [obs, obs]
    by_cases c : r6 = -1
    · rw [if_pos c, if_pos c]
      generalize fX5_packed _ _ _ = o
      cases o with
      | none => rfl
      | some r7 =>
        rw [obs, obs]
        generalize fX5_change _ _ _ _ M = o
        cases o with
        | none => rfl
        | some r8 => rw [obs, obs, obs]; rfl
    · rw [if_neg c, if_neg c, obs]; rfl
theorem rs_step0 {s i n : Nat} {R : gM} (hs : s < 4) (e : R 69 s = nI n) (h : i < n) (hn : n ≤ 12) : lX9_goSteps_2 (nI s) (nI 0) (nI i, R) = (fX9_whyNot (R 68 (60 * s + 5 * i)) (R 68 (60 * s + 5 * i + 1)) (R 68 (60 * s + 5 * i + 2)) (R 68 (60 * s + 5 * i + 3)) (R 68 (60 * s + 5 * i + 4)) R).bind fun r7 => if r7 = -1 then (fX9_doNow (R 68 (60 * s + 5 * i)) (R 68 (60 * s + 5 * i + 1)) (R 68 (60 * s + 5 * i + 2)) (R 68 (60 * s + 5 * i + 3)) (R 68 (60 * s + 5 * i + 4)) R).bind (fun r19 => lX9_goSteps_2 (nI s) (nI 0) (nI (i + 1), r19.2)) else some (.inl (nI i, R)) := by
  conv => lhs; unfold lX9_goSteps_2
  rw [itO_eq]; dsimp only
  have b0 : (5 : Int32) * ((12 : Int32) * nI s + nI i) = nI (60 * s + 5 * i) := by rw [a12, L5, nI_mul]; congr 1; omega
  rw [rI_n (by omega) (by omega), obs, e, if_neg (mt (nI_leI (by omega) (by omega)).mp (by omega)), b0, rI_n (by omega) (by omega), obs, show nI (60 * s + 5 * i) + 1 = nI (60 * s + 5 * i + 1) from nI_1 _, rI_n (by omega) (by omega), obs, show nI (60 * s + 5 * i) + 2 = nI (60 * s + 5 * i + 2) by rw [L2, nI_add], rI_n (by omega) (by omega), obs, show nI (60 * s + 5 * i) + 3 = nI (60 * s + 5 * i + 3) by rw [L3, nI_add], rI_n (by omega) (by omega), obs, show nI (60 * s + 5 * i) + 4 = nI (60 * s + 5 * i + 4) by rw [L4, nI_add], rI_n (by omega) (by omega), obs]
  generalize fX9_whyNot _ _ _ _ _ R = o
  cases o with
  | none => rfl
  | some r7 =>
    simp only [obs]
    by_cases c : r7 = -1
    · rw [if_pos c, if_pos c, if_pos (show nI 0 = 0 from rfl)]
      generalize fX9_doNow _ _ _ _ _ R = o
      cases o with
      | none => rfl
      | some r19 =>
        simp only [obs]
        unfold bX9_goSteps_178
        rw [obs, nI_1]; rfl
    · rw [if_neg c, if_neg c, obs]; rfl
theorem reh_go {I0 R0 : gM} {s : Nat} (hs : s < 4) {ss : List (Nat × Nat × List Nat)} (h12 : ss.length ≤ 12) (hok : ∀ i, i < ss.length → stepOK (ss.getD i (0, 0, []))) : ∀ (d i : Nat) (M R : gM) (A : aT), i + d = ss.length → MI true I0 M → MI false R0 R → WF A → CT M 8 A → RT R (R 70) A → ScK M (54 + 2 * s) ss → R 69 s = nI ss.length → (∀ a, a < 5 * ss.length → R 68 (60 * s + a) = se (ss.getD (a / 5) (0, 0, [])) (a % 5)) →
    ∃ M' R' A', ((lX4_rehearse_2 (54 + 2 * s) 8 (nI i, M) = some (.inr M') ∧ lX9_goSteps_2 (nI s) (nI 0) (nI i, R) = some (.inr R')) ∨ ∃ j, j < 12 ∧ lX4_rehearse_2 (54 + 2 * s) 8 (nI i, M) = some (.inl (nI j, M')) ∧ lX9_goSteps_2 (nI s) (nI 0) (nI i, R) = some (.inl (nI j, R'))) ∧ MI true I0 M' ∧ MI false R0 R' ∧ WF A' ∧ A'.1.length = A.1.length ∧ CT M' 8 A' ∧ RT R' (R' 70) A' ∧ (∀ q, q < 8 ∨ 12 < q → M' q = M q) ∧ (∀ q, q ≠ 70 → R' q = R q) := by
  intro d
  induction d with
  | zero =>
    intro i M R A hi hM hM9 hW hC hR hk e69 e68
    exact ⟨M, R, A, Or.inl ⟨rh_end hk.1 (by omega) h12 (by omega), rs_end hs e69 (by omega) h12 (by omega) _⟩, hM, hM9, hW, rfl, hC, hR, fun _ _ => rfl, fun _ _ => rfl⟩
  | succ d ih =>
    intro i M R A hi hM hM9 hW hC hR hk e69 e68
    rw [rh_step hk.1 (by omega) h12, rs_step0 hs e69 (by omega) h12]
    have hst := hok i (by omega)
    generalize hg : ss.getD i (0, 0, []) = st at *
    have g8 : ∀ c, c < 5 → M (54 + 2 * s + 1) (5 * i + c) = se st c := fun c hc => by
      rw [hk.2.2 _ (by omega), show (5 * i + c) / 5 = i by omega, show (5 * i + c) % 5 = c by omega, hg]
    have g9 : ∀ c, c < 5 → R 68 (60 * s + 5 * i + c) = se st c := fun c hc => by
      rw [show 60 * s + 5 * i + c = 60 * s + (5 * i + c) by omega, e68 _ (by omega), show (5 * i + c) / 5 = i by omega, show (5 * i + c) % 5 = c by omega, hg]
    have z8 : M (54 + 2 * s + 1) (5 * i) = se st 0 := g8 0 (by omega)
    have z9 : R 68 (60 * s + 5 * i) = se st 0 := g9 0 (by omega)
    rw [z8, g8 1 (by omega), g8 2 (by omega), g8 3 (by omega), g8 4 (by omega), z9, g9 1 (by omega), g9 2 (by omega), g9 3 (by omega), g9 4 (by omega)]
    have q0 : se st 0 = nI st.1 := rfl
    rw [q0]
    have hx : 2 ≤ st.1 → se st 2 = -1 ∧ se st 3 = -1 ∧ se st 4 = -1 := fun c => by
      have e := hst.2 c
      unfold se ce
      rw [e]
      exact ⟨rfl, rfl, rfl⟩
    rcases step_two kX5_8 hM hM9 hW hC hR (s := st.1) hst.1 (se st 1) (se st 2) (se st 3) (se st 4) hx with ⟨r, hr, e1, e2⟩ | ⟨A', q, r, v, b, e1, e2, e3, e4, e5, W', n', Mr, C', F', Mb, Rb, bk⟩
    · rw [e1, obs, e2, obs, if_neg hr, if_neg hr]
      exact ⟨M, R, A, Or.inr ⟨i, by omega, rfl, rfl⟩, hM, hM9, hW, rfl, hC, hR, fun _ _ => rfl, fun _ _ => rfl⟩
    · rw [e1, obs, e2, obs, if_pos rfl, if_pos rfl, e3, obs, e4, obs, e5, obs]
      have hk' : ScK r (54 + 2 * s) ss := ⟨by rw [F'.1 _ (by omega)]; exact hk.1, hk.2.1, fun x hx => by rw [F'.1 _ (by omega)]; exact hk.2.2 x hx⟩
      obtain ⟨M', R', A2, hc, k1, k2, k3, k4, k5, k6, k7, k8⟩ := ih (i + 1) r b A' (by omega) Mr Mb W' C' Rb hk' (by rw [bk 69 (by omega)]; exact e69) (fun x hx => by rw [bk 68 (by omega)]; exact e68 x hx)
      exact ⟨M', R', A2, hc, k1, k2, k3, k4.trans n', k5, k6, fun q hq => (k7 q hq).trans (F'.1 q hq), fun q hq => (k8 q hq).trans (bk q hq)⟩
theorem eq_run {I : gM} (h : InvB I) {v w : Int32} {a b : Int32 × gM} (e1 : fX8_run v w I = some a) (e2 : fX9_run v w a.2 = some b) : a.1 = b.1 := by
  obtain ⟨A, hW, hC, hR⟩ := h.tab
  have hMa : MI true I a.2 := by
    obtain ⟨p, ep, hp⟩ := tfX8_run v w I h.1.1
    rw [e1] at ep
    obtain rfl := Option.some.inj ep
    exact hp
  have hRa := hR.hi hMa hW
  obtain ⟨n, hn, en⟩ := h.mi.n (k := 62) (j := 12) (hi := 4) rfl
  have en' : a.2 62 12 = nI n := by rw [hMa.hi (by omega)]; exact en
  have hS := h.1.2.2.2.1
  unfold fX8_run at e1
  unfold fX9_run at e2
  rcases scr_n hS hn en v with ⟨s, hs, rfl, z1⟩ | ⟨hno, z1⟩
  · have z2 : fX9_isScript (nI s) a.2 = some 1 := by
      rcases n_isScript hn en' (nI s) with ⟨_, _, _, z⟩ | ⟨z, _⟩
      · exact z
      · exact absurd rfl (z s hs)
    rw [z1, obs, if_neg (by decide)] at e1
    rw [z2, obs, if_neg (by decide), n_areTables hW.1 hRa.1, obs] at e2
    by_cases n0 : A.1.length = 0
    · rw [if_pos ((hC.n0 hW).mpr n0)] at e1
      rw [if_pos n0, if_pos rfl] at e2
      cases e1; cases e2; rfl
    · rw [if_neg (mt (hC.n0 hW).mp n0)] at e1
      rw [if_neg n0, if_neg (by decide)] at e2
      have t0 : (0 : Int32).toInt = 0 := by decide
      have t1 : (1 : Int32).toInt = 1 := by decide
      rcases oi e1 with ⟨c, e1⟩ | ⟨c, e1⟩
      · rw [Int32.lt_iff_toInt_lt, t0] at c
        rcases n_in w 0 1 with ⟨h1, h2, h3⟩ | ⟨h1, h3⟩
        · omega
        · rw [h3, obs, if_pos rfl] at e2
          cases e1; cases e2; rfl
      · rw [Int32.lt_iff_toInt_lt, t0] at c
        rcases oi e1 with ⟨d, e1⟩ | ⟨d, e1⟩
        · rw [Int32.le_iff_toInt_le, t1] at d
          rcases n_in w 0 1 with ⟨h1, h2, h3⟩ | ⟨h1, h3⟩
          · rw [h3, obs, if_neg (by decide)] at e2
            obtain ⟨ss, k1, k2, k3, k4⟩ := hS.2 s (by omega) (by rw [en, nIt (by omega)]; omega)
            obtain ⟨r2, er2, C2, f2, f2'⟩ := c_copyT (k := 8) (k1 := 3) (by omega) hW hC
            have M2 : MI true I r2 := by
              obtain ⟨p, ep, hp⟩ := tfX5_copyFrom 8 3 I kX5_8 kX5_3 h.1.1
              rw [er2] at ep
              obtain rfl := Option.some.inj ep
              exact hp
            obtain ⟨p, ep, p1, p2, p3⟩ := n_putAside (I0 := a.2) (I := a.2) hMa.re
            have Rp : RT p (p 70) A := hRa.of hW (p3 62 (by omega)) (p3 72 (by omega)) (p3 73 (by omega)) (fun x _ => by rw [p3 70 (by omega)])
            have kk : ScK r2 (54 + 2 * s) ss := ⟨by rw [f2 _ (by omega)]; exact k1.1, k1.2.1, fun x hx => by rw [f2 _ (by omega)]; exact k1.2.2 x hx⟩
            have p69 : p 69 s = nI ss.length := by rw [p3 69 (by omega), hMa.hi (by omega)]; exact k2
            have s4 : s < 4 := by omega
            have l12 := k1.2.1
            obtain ⟨M', R', A', hc, g1, g2, g3, g4, g5, g6, g7, g8⟩ := reh_go (I0 := I) (R0 := a.2) s4 l12 k4 ss.length 0 r2 p A (by omega) M2 p1 hW C2 Rp kk p69 (fun x hx => by rw [p3 68 (by omega), hMa.hi (by omega)]; exact k3 x hx)
            rw [er2, obs, rA_n s4, obs] at e1
            rw [ep, obs] at e2
            have z33 : M' (29 + 4) 0 = 0 := by
              rw [g7 (29 + 4) (by omega), f2 (29 + 4) (by omega)]
              exact h.2.1.2.1
            obtain ⟨M3, R3, J, y1, y2, o, _⟩ := find_now (I0 := I) (k := 29) (k1 := 8) (by omega) g2 g3 (by omega) g5 g6 z33
            have m54 : M' (54 + 2 * s) 0 = nI ss.length := by rw [g7 _ (by omega), f2 _ (by omega)]; exact k1.1
            have fin : ∀ x, fX4_rehearse (54 + 2 * s) 8 r2 = some (x, M') → fX9_goSteps (nI s) 0 p = some (x, R') → a.1 = b.1 := fun x y3 y4 => by
              rw [y3, obs] at e1
              rw [y4, obs] at e2
              unfold fX9_rowsNow at e2
              rw [y2, obs, obs] at e2
              obtain ⟨r7, e7, e2⟩ := ob e2
              have k69 : r7 69 = p 69 := (zfX9_bringBack _ e7 69 (by omega)).trans ((zfX9_joinsNow _ y2 69 (by omega) (by omega) (by omega) (by omega) (by omega) (by omega) (by omega) (by omega)).trans (g8 69 (by omega)))
              rcases (by omega : w.toInt = 0 ∨ w.toInt = 1) with c | c
              · have cw : w = 0 := Int32.toInt_inj.mp (c.trans t0.symm)
                rw [if_pos cw, obs] at e1
                rw [if_neg (by rw [cw]; decide), rI_n (by omega) (by omega), obs, k69, p69] at e2
                by_cases cx : x = nI ss.length
                · rw [if_pos (show (x, M').1 = (x, M').2 (54 + 2 * s) 0 from cx.trans m54.symm)] at e1
                  rw [if_pos cx] at e2
                  cases e1; cases e2; rfl
                · rw [if_neg (show ¬ (x, M').1 = (x, M').2 (54 + 2 * s) 0 from fun z => cx (z.trans m54))] at e1
                  rw [if_neg cx] at e2
                  cases e1; cases e2; rfl
              · have cw : w = 1 := Int32.toInt_inj.mp (c.trans t1.symm)
                rw [if_neg (by rw [cw]; decide)] at e1
                dsimp only at e1
                rw [y1, obs] at e1
                rw [if_pos cw] at e2
                cases e1; cases e2
                exact o.1.trans o.2.1.symm
            rcases hc with ⟨c1, c2⟩ | ⟨j, hj, c1, c2⟩
            · refine fin (nI ss.length) ?_ ?_
              · unfold fX4_rehearse
                rw [show ((0 : Int32), r2) = (nI 0, r2) from rfl, c1, obs]
                show some (M' (54 + 2 * s) 0, M') = _
                rw [m54]
              · unfold fX9_goSteps
                have c2 : lX9_goSteps_2 (nI s) 0 ((0 : Int32), p) = some (.inr R') := c2
                rw [c2, obs]
                show ((rI 5 (R' 69) (nI s)).bind fun u21 => some (u21, R')) = _
                rw [rI_n (by omega) (by omega), obs, g8 69 (by omega), p69]
            · refine fin (nI j) ?_ ?_
              · unfold fX4_rehearse
                rw [show ((0 : Int32), r2) = (nI 0, r2) from rfl, c1, obs]; rfl
              · unfold fX9_goSteps
                have c2 : lX9_goSteps_2 (nI s) 0 ((0 : Int32), p) = some (.inl (nI j, R')) := c2
                rw [c2, obs]; rfl
          · rw [t0, t1] at h1
            exact absurd ⟨by omega, by omega⟩ h1
        · rw [Int32.le_iff_toInt_le, t1] at d
          rcases n_in w 0 1 with ⟨h1, h2, h3⟩ | ⟨h1, h3⟩
          · omega
          · rw [h3, obs, if_pos rfl] at e2
            cases e1; cases e2; rfl
  · have z2 : fX9_isScript v a.2 = some 0 := by
      rcases n_isScript hn en' v with ⟨t, q1, q2, _⟩ | ⟨_, z⟩
      · exact absurd q2 (hno t q1)
      · exact z
    rw [z1, obs, if_pos rfl] at e1
    rw [z2, obs, if_pos rfl] at e2
    cases e1; cases e2; rfl
