/-! most: couples of letters that tell, and all answers -/
theorem OUT.keep {k : Nat} {ls : List Nat} {M R N K : gM} {J : Nat} (o : OUT k ls M R J) (h : ∀ q, q < 42 → N q = M q) (hk : k + 3 < 42) (g : ∀ q, q ≠ 86 → K q = R q) : OUT k ls N K J :=
  ⟨by rw [h k (by omega)]; exact o.1, by rw [g 62 (by omega)]; exact o.2.1, by rw [h k (by omega), g 62 (by omega)]; exact o.2.2.1, fun e he => by rw [h (k + 1) (by omega), g 79 (by omega)]; exact o.2.2.2.1 e he, fun j hj => by
    rw [h (k + 3) (by omega), g 80 (by omega)]; exact o.2.2.2.2 j hj⟩
theorem told_two {R0 M R N K : gM} {A : aT} {J l x : Nat} (hW : WF A) (M1 : MI false R0 R) (G1 : GJ9 R) (A1 : A9 R) (R1 : RT R (R 70) A) (o : OUT 18 (fl4 A.2.2 (asA A)) M R J) (hJ : J ≤ 20736) (hN : ∀ q, q ≠ 42 → N q = M q) (hK : ∀ q, q ≠ 86 → K q = R q) (MK : MI false R0 K) (hl : l < 4) (hx : x < 4) (hb : (asA A).testBit l = true) (hb' : (asA A).testBit x = true) : ∃ b N' K', (b = 0 ∨ b = 1) ∧ fX0_isTold 18 (nI l) (nI x) N = some (b, N') ∧ fX9_isTold (nI l) (nI x) K = some (b, K') ∧ (∀ q, q ≠ 42 → N' q = M q) ∧ ∀ q, q ≠ 86 → K' q = R q := by
  have dn : ∀ j y, rdg N 18 j y = rdg M 18 j y := fun j y => by unfold rdg; rw [hN (18 + 3) (by omega)]
  have ok := o.keep (fun q hq => hN q (by omega)) (by omega) hK
  obtain ⟨p, ep, q1, f1⟩ := c_told ok hJ (by omega) hl hx (fun j hj => by rw [dn]; exact (d99 M1 G1 A1 hW R1 o hJ hl hb hj).2)
  obtain ⟨p', ep', q2, f2⟩ := n_told (f := fun j => rdg N 18 j l) (g := fun j => rdg N 18 j x) MK hJ ok.2.1 hl hx (fun j hj => by rw [dn, hK 80 (by omega)]; exact d99 M1 G1 A1 hW R1 o hJ hl hb hj) (fun j hj => by rw [dn, hK 80 (by omega)]; exact (d99 M1 G1 A1 hW R1 o hJ hx hb' hj).1) (fun j => by have := rdg_lt N 18 j x; omega)
  obtain ⟨b, N'⟩ := p
  obtain ⟨b', K'⟩ := p'
  dsimp only at q1 q2 f1 f2
  have eb : b = b' := by
    rcases q1 with ⟨r1, t1⟩ | ⟨r1, t1⟩
    · rcases q2 with ⟨r2, t2⟩ | ⟨r2, t2⟩
      · rw [r1, r2]
      · exact absurd t1 t2
    · rcases q2 with ⟨r2, t2⟩ | ⟨r2, t2⟩
      · exact absurd t2 t1
      · rw [r1, r2]
  subst eb
  refine ⟨b, N', K', ?_, ep, ep', fun q hq => (f1 q hq).trans (hN q hq), fun q hq => (f2 q hq).trans (hK q hq)⟩
  rcases q1 with ⟨r1, _⟩ | ⟨r1, _⟩
  · exact Or.inr r1
  · exact Or.inl r1
theorem MI.of86 {R0 R K : gM} (h : MI false R0 R) (hK : ∀ q, q ≠ 86 → K q = R q) : MI false R0 K := by
  refine ⟨fun q j => ?_, fun q hq => ?_⟩
  · by_cases c : q = 86
    · subst c; exact tTop _
    · rw [hK q c]; exact h.1 q j
  · by_cases c : q = 86
    · subst c; exact absurd hq (by decide)
    · rw [hK q c]; exact h.2 q hq
theorem two_couples {R0 M R : gM} {A : aT} {J : Nat} (hW : WF A) (hC : CT M 3 A) (M1 : MI false R0 R) (G1 : GJ9 R) (A1 : A9 R) (R1 : RT R (R 70) A) (o : OUT 18 (fl4 A.2.2 (asA A)) M R J) (hJ : J ≤ 20736) {r : Int32 × gM} (e : fX8_tellingCouples M = some r) : ∃ K, fX9_couples R = some (r.1, K) := by
  unfold fX8_tellingCouples at e
  obtain ⟨w, ew, e⟩ := ob e
  obtain rfl := Option.some.inj e
  have CN : ∀ {N : gM}, (∀ q, q ≠ 42 → N q = M q) → CT N 3 A := fun h => hC.cong (fun j _ => by rw [h 3 (by omega)]) (h _ (by omega)) (h _ (by omega)) (h _ (by omega)) (h _ (by omega))
  have RK : ∀ {K : gM}, (∀ q, q ≠ 86 → K q = R q) → RT K (K 70) A := fun {K} h => by
    rw [h 70 (by omega)]
    exact R1.cong (by rw [h 62 (by omega)]) (h 72 (by omega)) (h 73 (by omega)) hW.1 hW.k12 (fun _ _ => rfl)
  have inner : ∀ (l : Nat), l < 4 → ∀ (a : Int32) (N K : gM), (∀ q, q ≠ 42 → N q = M q) → (∀ q, q ≠ 86 → K q = R q) → ∀ {w : Int32 × gM}, lX8_tellingCouples_11 (nI l) (a, 0, N) = some w → ∃ K', lX9_couples_11 (nI l) (a, 0, K) = some (w.1, K') ∧ (∀ q, q ≠ 42 → w.2 q = M q) ∧ ∀ q, q ≠ 86 → K' q = R q := by
    intro l hl a N K hN hK w ew
    unfold lX8_tellingCouples_11 at ew
    unfold lX9_couples_11
    obtain ⟨w', ew', q⟩ := it_two (g := fun s : Int32 × Int32 × gM => if (4 : Int32) ≤ s.2.1 then some (.inr (s.1, s.2.2)) else if nI l = s.2.1 then bX9_couples_51 s.2.1 s.1 s.2.2 else (fX9_isAsked (nI l) s.2.2).bind fun r1 => if r1 = 0 then bX9_couples_51 s.2.1 s.1 s.2.2 else (fX9_isAsked s.2.1 s.2.2).bind fun r2 => if r2 = 0 then bX9_couples_51 s.2.1 s.1 s.2.2 else (fX9_isTold (nI l) s.2.1 s.2.2).bind fun r3 => if r3.1 = 0 then bX9_couples_51 s.2.1 s.1 r3.2 else bX9_couples_52 s.2.1 (1 : Int32) s.1 r3.2) (fun s t : Int32 × Int32 × gM => s.1 = t.1 ∧ s.2.1 = t.2.1 ∧ (∃ x, x ≤ 4 ∧ s.2.1 = nI x) ∧ (∀ q, q ≠ 42 → s.2.2 q = M q) ∧ ∀ q, q ≠ 86 → t.2.2 q = R q) (fun a b : Int32 × gM => a.1 = b.1 ∧ (∀ q, q ≠ 42 → a.2 q = M q) ∧ ∀ q, q ≠ 86 → b.2 q = R q) (fun s t hst y hy => by
      obtain ⟨s1, s2, N'⟩ := s
      obtain ⟨t1, t2, K'⟩ := t
      obtain ⟨e1, e2, ⟨x, hx, e3⟩, hN', hK'⟩ := hst
      dsimp only at e1 e2 e3 hN' hK'
      subst e1; subst e2; subst e3
      dsimp only at hy ⊢
      rcases oi hy with ⟨c, hy⟩ | ⟨c, hy⟩
      · rw [if_pos c]
        obtain rfl := Option.some.inj hy
        exact ⟨_, rfl, Or.inr ⟨_, _, rfl, rfl, rfl, hN', hK'⟩⟩
      · have c' := mt (nI_leI (a := 4) (b := x) (by omega) (by omega)).mpr c
        rw [if_neg c]
        unfold bX9_couples_51 bX9_couples_52
        unfold bX8_tellingCouples_33 at hy
        have skip : ∀ {N2 K2 : gM} {y : (Int32 × Int32 × gM) ⊕ (Int32 × gM)}, (∀ q, q ≠ 42 → N2 q = M q) → (∀ q, q ≠ 86 → K2 q = R q) → some (Sum.inl (s1, nI x + 1, N2)) = some y → ∃ z, (some (Sum.inl (s1 + 0, nI x + 1, K2)) : Option ((Int32 × Int32 × gM) ⊕ (Int32 × gM))) = some z ∧ ((∃ s' t' : Int32 × Int32 × gM, y = .inl s' ∧ z = .inl t' ∧ s'.1 = t'.1 ∧ s'.2.1 = t'.2.1 ∧ (∃ x, x ≤ 4 ∧ s'.2.1 = nI x) ∧ (∀ q, q ≠ 42 → s'.2.2 q = M q) ∧ ∀ q, q ≠ 86 → t'.2.2 q = R q) ∨ ∃ r r' : Int32 × gM, y = .inr r ∧ z = .inr r' ∧ r.1 = r'.1 ∧ (∀ q, q ≠ 42 → r.2 q = M q) ∧ ∀ q, q ≠ 86 → r'.2 q = R q) := fun h1 h2 hy => by
          obtain rfl := Option.some.inj hy
          exact ⟨_, rfl, Or.inl ⟨_, _, rfl, rfl, (Int32.add_zero s1).symm, rfl, ⟨x + 1, by omega, nI_1 _⟩, h1, h2⟩⟩
        rcases oi hy with ⟨d, hy⟩ | ⟨d, hy⟩
        · rw [if_pos d]
          exact skip hN' hK' hy
        · rw [if_neg d]
          obtain ⟨p, ep, hy⟩ := ob hy
          unfold fX8_tells at ep
          rcases two_asked hW (CN hN') (M1.of86 hK') (RK hK') (nI l) with ⟨l', hl', el, hb, n, z1, z2⟩ | ⟨z1, z2⟩
          · have el := nI_inj el (by omega) (by omega)
            subst el
            rw [z1, obs, if_neg (by decide)] at ep
            rw [z2, obs, if_neg (by decide)]
            rcases two_asked hW (CN hN') (M1.of86 hK') (RK hK') (nI x) with ⟨x', hx', ex, hb', _, y1, y2⟩ | ⟨y1, y2⟩
            · have ex := nI_inj ex (by omega) (by omega)
              subst ex
              rw [y1, obs, if_neg (by decide)] at ep
              rw [y2, obs, if_neg (by decide)]
              obtain ⟨b, N2, K2, b01, g1, g2, g3, g4⟩ := told_two hW M1 G1 A1 R1 o hJ hN' hK' (M1.of86 hK') hl hx' hb hb'
              rw [g1, obs] at ep
              rw [g2, obs]
              rcases b01 with rfl | rfl
              · rw [if_pos rfl] at ep ⊢
                obtain rfl := Option.some.inj ep
                rw [if_pos rfl] at hy
                exact skip g3 g4 hy
              · rw [if_neg (show ¬ (1 : Int32) = 0 by decide)] at ep ⊢
                obtain rfl := Option.some.inj ep
                rw [if_neg (show ¬ (1 : Int32) = 0 by decide)] at hy
                obtain rfl := Option.some.inj hy
                exact ⟨_, rfl, Or.inl ⟨_, _, rfl, rfl, rfl, rfl, ⟨x + 1, by omega, nI_1 _⟩, g3, g4⟩⟩
            · rw [y1, obs, if_pos rfl] at ep
              rw [y2, obs, if_pos rfl]
              obtain rfl := Option.some.inj ep
              rw [if_pos rfl] at hy
              exact skip hN' hK' hy
          · rw [z1, obs, if_pos rfl] at ep
            rw [z2, obs, if_pos rfl]
            obtain rfl := Option.some.inj ep
            rw [if_pos rfl] at hy
            exact skip hN' hK' hy) (s := (a, 0, N)) (t := (a, 0, K)) ⟨rfl, rfl, ⟨0, by omega, rfl⟩, hN, hK⟩ ew
    obtain ⟨q1, q2, q3⟩ := q
    refine ⟨w'.2, ?_, q2, q3⟩
    rw [ew', q1]
  unfold lX8_tellingCouples_4 at ew
  unfold fX9_couples lX9_couples_4
  obtain ⟨w', ew', q⟩ := it_two (g := fun s : Int32 × Int32 × gM => if (4 : Int32) ≤ s.2.1 then some (.inr (s.1, s.2.2)) else (lX9_couples_11 s.2.1 (s.1, (0 : Int32), s.2.2)).bind fun w4 => some (.inl (w4.1, s.2.1 + 1, w4.2))) (fun s t : Int32 × Int32 × gM => s.1 = t.1 ∧ s.2.1 = t.2.1 ∧ (∃ x, x ≤ 4 ∧ s.2.1 = nI x) ∧ (∀ q, q ≠ 42 → s.2.2 q = M q) ∧ ∀ q, q ≠ 86 → t.2.2 q = R q) (fun a b : Int32 × gM => a.1 = b.1) (fun s t hst y hy => by
    obtain ⟨s1, s2, N'⟩ := s
    obtain ⟨t1, t2, K'⟩ := t
    obtain ⟨e1, e2, ⟨x, hx, e3⟩, hN', hK'⟩ := hst
    dsimp only at e1 e2 e3 hN' hK'
    subst e1; subst e2; subst e3
    dsimp only at hy ⊢
    rcases oi hy with ⟨c, hy⟩ | ⟨c, hy⟩
    · rw [if_pos c]
      obtain rfl := Option.some.inj hy
      exact ⟨_, rfl, Or.inr ⟨_, _, rfl, rfl, rfl⟩⟩
    · have c' := mt (nI_leI (a := 4) (b := x) (by omega) (by omega)).mpr c
      rw [if_neg c]
      obtain ⟨p, ep, hy⟩ := ob hy
      obtain ⟨K2, g1, g2, g3⟩ := inner x (by omega) s1 N' K' hN' hK' ep
      rw [g1, obs]
      obtain rfl := Option.some.inj hy
      exact ⟨_, rfl, Or.inl ⟨_, _, rfl, rfl, rfl, rfl, ⟨x + 1, by omega, nI_1 _⟩, g2, g3⟩⟩) (s := (0, 0, M)) (t := (0, 0, R)) ⟨rfl, rfl, ⟨0, by omega, rfl⟩, fun _ _ => rfl, fun _ _ => rfl⟩ ew
  refine ⟨w'.2, ?_⟩
  rw [ew', obs, q]
theorem eq_most {I : gM} (h : InvB I) {v : Int32} {a b : Int32 × gM} (e1 : fX8_most v I = some a) (e2 : fX9_most v a.2 = some b) : a.1 = b.1 := by
  obtain ⟨A, hW, hC, hR⟩ := h.tab
  have hMa : MI true I a.2 := by
    obtain ⟨p, ep, hp⟩ := tfX8_most v I h.1.1
    rw [e1] at ep
    obtain rfl := Option.some.inj ep
    exact hp
  have hRa := hR.hi hMa hW
  unfold fX8_most at e1
  unfold fX9_most at e2
  rw [n_areTables hW.1 hRa.1, obs] at e2
  by_cases n : A.1.length = 0
  · rw [if_pos ((hC.n0 hW).mpr n)] at e1
    rw [if_pos n, if_pos rfl] at e2
    cases e1; cases e2; rfl
  · rw [if_neg (mt (hC.n0 hW).mp n)] at e1
    rw [if_neg n, if_neg (by decide)] at e2
    have t6 : (6 : Int32).toInt = 6 := by decide
    have hin := n_in v 0 6
    rw [t0i, t6] at hin
    rcases hin with ⟨z1, z2, z⟩ | ⟨zn, z⟩
    · rw [z, obs, if_neg (by decide)] at e2
      obtain ⟨x, rfl, hx⟩ : ∃ x, v = nI x ∧ x ≤ 6 := ⟨_, nI_self z1, by omega⟩
      obtain ⟨R', J, ej, o, hJ, hS, hQ, hll, M1, G1, fR, fj⟩ := cur_two h hW (by omega) hC hMa.re hRa
      obtain ⟨A1, R1⟩ := cur_more (I := I) (R0 := I) hW (A9.hi hMa h.1.2.1) hRa fR fj
      rw [ej, obs] at e2
      have hG : ∀ t, t < A.1.length → ∃ B, B < 4096 ∧ fX0_givenBits 18 3 (nI t) I = some (nI B) ∧ fX9_givenBy (nI t) R' = some (nI B) := fun t ht => by
        obtain ⟨B, g1, g2, g3⟩ := two_given hW hC M1 G1 A1 R1 o hJ ht
        have := Nat.pow_le_pow_right (n := 2) (by decide) (hW.2.2.2.2 t ht).2.2.2.1
        exact ⟨B, by omega, g1, g2⟩
      rcases (by omega : x = 0 ∨ x = 1 ∨ x = 2 ∨ x = 3 ∨ x = 4 ∨ x = 5 ∨ x = 6) with rfl | rfl | rfl | rfl | rfl | rfl | rfl
      · rw [if_pos (by decide), c_allN hW hC, obs] at e1
        rw [if_pos (by decide), n_sumR hW R1, obs] at e2
        cases e1; cases e2; rfl
      · rw [if_neg (by decide), if_pos (by decide)] at e1
        obtain ⟨r, er, e1⟩ := ob e1
        rw [if_neg (by decide), if_pos (by decide), if_neg (by decide)] at e2
        unfold bX9_most_80 at e2
        rw [two_mostRows hW (by omega) hC R1 er, obs] at e2
        cases e1; cases e2; rfl
      · rw [if_neg (by decide), if_neg (by decide), if_pos (by decide)] at e1
        obtain ⟨r, er, e1⟩ := ob e1
        rw [if_neg (by decide), if_neg (by decide), if_pos (by decide), if_pos (by decide)] at e2
        unfold bX9_most_80 at e2
        rw [two_mostGiven hW (by omega) hC R1 hG er, obs] at e2
        cases e1; cases e2; rfl
      · rw [if_neg (by decide), if_neg (by decide), if_neg (by decide), if_pos (by decide)] at e1
        obtain ⟨r, er, e1⟩ := ob e1
        rw [if_neg (by decide), if_neg (by decide), if_neg (by decide), if_pos (by decide), two_dangling hW hC R1 hG er, obs] at e2
        cases e1; cases e2; rfl
      · rw [if_neg (by decide), if_neg (by decide), if_neg (by decide), if_neg (by decide), if_pos (by decide)] at e1
        obtain ⟨r, er, e1⟩ := ob e1
        obtain ⟨K, eK⟩ := two_couples hW hC M1 G1 A1 R1 o hJ er
        rw [if_neg (by decide), if_neg (by decide), if_neg (by decide), if_neg (by decide), if_pos (by decide), eK, obs] at e2
        cases e1; cases e2; rfl
      · rw [if_neg (by decide), if_neg (by decide), if_neg (by decide), if_neg (by decide), if_neg (by decide), if_pos (by decide)] at e1
        obtain ⟨r, er, e1⟩ := ob e1
        rw [if_neg (by decide), if_neg (by decide), if_neg (by decide), if_neg (by decide), if_neg (by decide), if_pos (by decide)] at e2
        obtain ⟨M', R2, J', f1, f2, o', _⟩ := find_two (I0 := I) (k := 29) (k1 := 3) (o := 0) (by omega) M1 hW (by omega) hC R1 h.2.1.2.1 (by omega)
        have f1 : fX1_findBy 29 3 (0 : Int32) I = some M' := f1
        have f2 : fX9_joins (0 : Int32) R' = some R2 := f2
        rw [er] at f1
        obtain rfl := Option.some.inj f1
        rw [f2, obs] at e2
        cases e1; cases e2
        exact o'.2.2.1
      · rw [if_neg (by decide), if_neg (by decide), if_neg (by decide), if_neg (by decide), if_neg (by decide), if_neg (by decide), if_pos (by decide)] at e1
        obtain ⟨r, er, e1⟩ := ob e1
        rw [if_neg (by decide), if_neg (by decide), if_neg (by decide), if_neg (by decide), if_neg (by decide), if_neg (by decide)] at e2
        obtain ⟨R2, f1, _, _, f2⟩ := weigh_two h.2.1 hW (by omega) hC M1 R1 er
        rw [f1, obs] at e2
        cases e1; cases e2
        exact f2
    · rw [z, obs, if_pos rfl] at e2
      have ne : ∀ x : Nat, x ≤ 6 → ∀ w : Int32, w = nI x → ¬ v = w := fun x hx w hw q => zn (by rw [q, hw, tnI (by omega)]; omega)
      rw [if_neg (ne 0 (by omega) (0 : Int32) rfl), if_neg (ne 1 (by omega) (1 : Int32) rfl), if_neg (ne 2 (by omega) (2 : Int32) rfl), if_neg (ne 3 (by omega) (3 : Int32) rfl), if_neg (ne 4 (by omega) (4 : Int32) rfl), if_neg (ne 5 (by omega) (5 : Int32) rfl), if_neg (ne 6 (by omega) (6 : Int32) rfl)] at e1
      cases e1; cases e2; rfl
